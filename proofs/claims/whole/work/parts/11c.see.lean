/-! ===== by which heat: see, seen, tells ===== -/
theorem and_sg {x : Int} (h : 0 ≤ x ∧ x ≤ 255) : i_and (sg x) 255 = x := by
  rw [i_and255]
  unfold sg
  split <;> omega
/-- the tape goes, and something may be refused -/
theorem RA.tz {μ μ1 : m_M} {A : m_T} {t s b : Nat} (h : RA μ A t s b) (e : ∀ x y z, ¬ (x = 1 ∧ (y = 13 ∨ y = 0 ∧ z = 1)) → ¬ (x = 34 ∧ (y = 42 ∨ y = 0 ∧ z = 1)) → μ1 x y z = μ x y z) (e1 : μ1 1 0 1 = 0) (e2 : μ1 34 0 1 = 0) (e3 : ∀ i, i < 6 → μ1 34 42 i = μ1 1 13 i) : RA μ1 A t s b := by
  obtain ⟨r1, r2, r3, -, r5, r6, r7, r8, r9⟩ := h
  refine ⟨r1.rd (fun x y z q => e x y z (by unfold rd_town at q; omega) (by unfold rd_town at q; omega)), R_now.rd r2 (fun x y z q => e x y z (by unfold rd_now at q; omega) (by unfold rd_now at q; omega)), r3.rd (fun x y z q => e x y z (by unfold rd_undo at q; omega) (by unfold rd_undo at q; omega)), ⟨0, by omega, e1, e2, fun i hi => by omega⟩, ?_, r6.rd (fun x y z q => e x y z (by unfold rd_see at q; omega) (by unfold rd_see at q; omega)), r7.rd (fun x y z q => e x y z (by unfold rd_best at q; omega) (by unfold rd_best at q; omega)), r8.rd (fun x y z q => e x y z (by unfold rd_img at q; omega) (by unfold rd_img at q; omega)), R_own.rd r9 (fun y z => e 3 y z (by omega) (by omega))⟩
  obtain ⟨k1, k2, k3⟩ := r5
  exact ⟨by rw [e 34 0 54 (by omega) (by omega), e 1 0 13 (by omega) (by omega)]; exact k1, by rw [e 34 0 10 (by omega) (by omega), e 1 0 14 (by omega) (by omega), e 34 0 11 (by omega) (by omega), e 1 0 15 (by omega) (by omega)]; exact k2, e3⟩
/-- rows that can be seen -/
def okRow (T : Nat → Int) (nc : Int) (i : Nat) : Prop := T (3 * i) < nc ∧ T (3 * i + 1) < 6 ∧ T (3 * i + 2) ≤ 99
def okSee (T : Nat → Int) (nc : Int) (L : Nat) : Prop := (3 ≤ L ∧ L ≤ 48 ∧ L % 3 = 0) ∧ ∀ i, 3 * i < L → okRow T nc i
theorem tmod3 (L : Nat) : (L : Int).tmod 3 = ((L % 3 : Nat) : Int) := by rw [Int.tmod_eq_emod_of_nonneg (by omega)]; omega
theorem tdiv3 (L : Nat) : (L : Int).tdiv 3 = ((L / 3 : Nat) : Int) := by rw [Int.tdiv_eq_ediv_of_nonneg (by omega)]; omega
section SE
variable {G : m_G} {a1 a2 a3 a4 : Int}
theorem c_see {d : Nat} {μ : m_M} {T : Nat → Int} {nc : Int} {L : Nat} (hT : ∀ i, i < L → (0 ≤ T i ∧ T i ≤ 255) ∧ μ 1 1 i = sg (T i)) (hL : L ≤ 1600) {K : Int → m_M → Prop} (k1 : okSee T nc L → ∀ μ1, (∀ x y z, ¬ (x = 8 ∧ (y = 5 ∨ y = 0 ∧ z = 0)) → μ1 x y z = μ x y z) → μ1 8 0 0 = ((L / 3 : Nat) : Int) → (∀ i, i < L → μ1 8 5 i = T i) → K 1 μ1) (k0 : ¬ okSee T nc L → K 0 μ) : c_i G (d + 1) YX8_read [vR 8 0, vR 1 1, vI (L : Int), vI nc] μ K := by
  refine EX8_read (fun X C R => ⟨fun q => k0 (fun z => by have := z.1; omega), fun q => ⟨fun q2 => k0 (fun z => by have := z.1; omega), fun q2 => ⟨fun q3 => ?_, fun q3 => k0 (fun z => ?_)⟩⟩⟩)
  · rw [tmod3] at q3
    obtain ⟨n, hn⟩ : ∃ n, L = 3 * n := ⟨L / 3, by omega⟩
    have L2 : okSee T nc L → ∀ (r i : Nat) (μ1 : m_M), i + r = L → (∀ x y z, ¬ (x = 8 ∧ (y = 5 ∨ y = 0 ∧ z = 0)) → μ1 x y z = μ x y z) → (∀ j, j < i → μ1 8 5 j = T j) → mW G X YX8_read μ1 96 [some (vR 8 0), some (vR 1 1), some (vI (L : Int)), some (vI nc), some (vI (i : Int)), none] [] := by
      intro hok r
      induction r with
      | zero =>
        intro i μ1 hi e1 e2
        refine VX8_read_96 C R ⟨fun _ μ2 e3 => ?_, fun q => absurd (by omega) q⟩
        rw [tdiv3, w32_le (by omega) (by omega)] at e3
        refine k1 hok μ2 (fun x y z q => ?_) (by rw [e3, m_up_at]) (fun j hj => ?_)
        · rw [e3, m_up_ne _ _ (by omega)]; exact e1 x y z q
        · rw [e3, m_up_ne _ _ (by omega)]; exact e2 j (by omega)
      | succ r ih =>
        intro i μ1 hi e1 e2
        refine VX8_read_96 C R ⟨fun q => absurd q (by omega), fun _ => ⟨⟨by omega, by omega⟩, ⟨by omega, by omega⟩, fun μ2 e3 x3 ex => ?_⟩⟩
        rw [w32_s (by omega)] at ex
        subst ex
        rw [Int.toNat_natCast, e1 1 1 i (by omega), (hT i (by omega)).2, and_sg (hT i (by omega)).1] at e3
        refine ih (i + 1) μ2 (by omega) (fun x y z q => ?_) (fun j hj => ?_)
        · rw [e3, m_up_ne _ _ (by omega)]; exact e1 x y z q
        · by_cases z : j = i
          · subst z; rw [e3, m_up_at]
          · rw [e3, m_up_ne _ _ (by omega)]; exact e2 j (by omega)
    have L1 : ∀ (r i : Nat), i + r = n → (∀ j, j < i → okRow T nc j) → mW G X YX8_read μ 25 [some (vR 8 0), some (vR 1 1), some (vI (L : Int)), some (vI nc), some (vI ((3 * i : Nat) : Int)), none] [] := by
      intro r
      induction r with
      | zero =>
        intro i hi hj
        exact VX8_read_25 C R ⟨fun _ => L2 ⟨⟨by omega, by omega, by omega⟩, fun j hj2 => hj j (by omega)⟩ L 0 μ (by omega) (fun _ _ _ _ => rfl) (fun j hj => by omega), fun q => absurd (by omega) q⟩
      | succ r ih =>
        intro i hi hj
        have g0 := hT (3 * i) (by omega)
        have g1 := hT (3 * i + 1) (by omega)
        have g2 := hT (3 * i + 2) (by omega)
        refine VX8_read_25 C R ⟨fun q => absurd q (by omega), fun _ => ?_⟩
        rw [show w32 (((3 * i : Nat) : Int) + 1) = ((3 * i + 1 : Nat) : Int) from w32_s (by omega), show w32 (((3 * i : Nat) : Int) + 2) = ((3 * i + 2 : Nat) : Int) by rw [w32_le (by omega) (by omega)]; omega, show w32 (((3 * i : Nat) : Int) + 3) = ((3 * (i + 1) : Nat) : Int) by rw [w32_le (by omega) (by omega)]; omega]
        rw [Int.toNat_natCast, Int.toNat_natCast, Int.toNat_natCast, g0.2, g1.2, g2.2, and_sg g0.1, and_sg g1.1, and_sg g2.1]
        refine ⟨⟨by omega, by omega⟩, fun q => k0 (fun z => ?_), fun q1 => ⟨⟨by omega, by omega⟩, fun q => k0 (fun z => ?_), fun q2 => ⟨⟨by omega, by omega⟩, fun q => k0 (fun z => ?_), fun q3 x6 e6 => ?_⟩⟩⟩
        · have := (z.2 i (by omega)).1; omega
        · have := (z.2 i (by omega)).2.1; omega
        · have := (z.2 i (by omega)).2.2; omega
        · subst e6
          refine ih (i + 1) (by omega) (fun j hj2 => ?_)
          by_cases z : j = i
          · subst z; exact ⟨by omega, by omega, by omega⟩
          · exact hj j (by omega)
    exact L1 n 0 (by omega) (fun j hj => by omega)
  · rw [tmod3] at q3; have := z.1; omega
theorem mo_see {d : Nat} {μ : m_M} {A : m_T} {b : Nat} {T : Nat → Int} {L : Nat} (hM : MT μ b A) (hT : ∀ i, i < L → (0 ≤ T i ∧ T i ≤ 255) ∧ μ 34 1 i = T i) (e1 : μ 34 0 1 = (L : Int)) (hL : L ≤ 1600) {K : Int → m_M → Prop} (k1 : okSee T (tw_nc A) L → ∀ μ1, (∀ x y z, ¬ (x = 34 ∧ (62 ≤ y ∧ y ≤ 64 ∨ y = 0 ∧ (z = 60 ∨ z = 1))) → μ1 x y z = μ x y z) → μ1 34 0 1 = 0 → μ1 34 0 60 = ((L / 3 : Nat) : Int) → (∀ i, 3 * i < L → μ1 34 62 i = T (3 * i) ∧ μ1 34 63 i = T (3 * i + 1) ∧ μ1 34 64 i = T (3 * i + 2)) → K ((L / 3 : Nat) : Int) μ1) (k0 : ¬ okSee T (tw_nc A) L → K (-1) (m_up (m_up μ 34 0 1 0) 34 42 5 (w32 (μ 34 42 5 + 1)))) : c_i G (d + 2) YX12_see [vR 34 0] μ K := by
  have hnc := hM.2.2.2.1.1
  have hb := hM.2.1
  refine EX12_see (fun X C R x1 ex1 μ2 e2 => ?_)
  rw [e1] at ex1
  subst ex1
  have hM2 : MT μ2 b A := hM.mv (fun x c hx => by rw [e2, m_up_ne _ _ (by omega)])
  have no : ∀ k : Nat, ¬ okSee T (tw_nc A) L → mW G X YX12_see μ2 34 [some (vR 34 0), some (vI (L : Int)), some (vI 0), some (vI (k : Int))] [] := fun k hn => by
    have fin : c_i G (d + 1) YX12_refuses [vR 34 0, vI 5] μ2 (fun r4 μ3 => K r4 μ3) := by
      refine mo_rf (w := 5) (by decide) ?_
      have := k0 hn
      rw [e2, m_up_ne (a := 34) (b := 42) (c := 5) μ 0 (by omega)]
      exact this
    exact VX12_see_34 C R ⟨fun _ => ⟨fun q => absurd rfl q, fun _ => fin⟩, fun _ => ⟨fun _ => ⟨fun q => absurd rfl q, fun _ => fin⟩, fun q => absurd rfl q⟩⟩
  rw [tmod3]
  refine ⟨fun q => no 0 (fun z => by have := z.1; omega), fun q => ⟨fun q2 => no 0 (fun z => by have := z.1; omega), fun q2 => ⟨fun q3 => no 0 (fun z => by have := z.1; omega), fun q3 => ?_⟩⟩⟩
  obtain ⟨n, hn⟩ : ∃ n, L = 3 * n := ⟨L / 3, by omega⟩
  have t2 : ∀ i, i < L → μ2 34 1 i = T i := fun i hi => by rw [e2, m_up_ne _ _ (by omega)]; exact (hT i hi).2
  have L2 : okSee T (tw_nc A) L → ∀ (r i : Nat) (μ1 : m_M), i + r = n → (∀ x y z, ¬ (x = 34 ∧ (62 ≤ y ∧ y ≤ 64 ∨ y = 0 ∧ z = 60)) → μ1 x y z = μ2 x y z) → μ1 34 0 60 = (n : Int) → (∀ j, j < i → μ1 34 62 j = T (3 * j) ∧ μ1 34 63 j = T (3 * j + 1) ∧ μ1 34 64 j = T (3 * j + 2)) → mW G X YX12_see μ1 113 [some (vR 34 0), some (vI (L : Int)), some (vI 1), some (vI (i : Int))] [] := by
    intro hok r
    induction r with
    | zero =>
      intro i μ1 hi f1 f2 f3
      refine VX12_see_113 C R ⟨fun _ => ?_, fun q => absurd (by omega) q⟩
      rw [f2]
      have en : L / 3 = n := by omega
      have := k1 hok μ1 (fun x y z q => ?_) ?_ (by rw [f2, en]) (fun j hj => f3 j (by omega))
      · rw [en] at this; exact this
      · rw [f1 x y z (by omega), e2, m_up_ne _ _ (by omega)]
      · rw [f1 34 0 1 (by omega), e2, m_up_at]
    | succ r ih =>
      intro i μ1 hi f1 f2 f3
      refine VX12_see_113 C R ⟨fun q => absurd q (by omega), fun _ => ?_⟩
      have w0 : w32 (3 * (i : Int)) = ((3 * i : Nat) : Int) := by rw [w32_le (by omega) (by omega)]; omega
      have w1 : w32 (((3 * i : Nat) : Int) + 1) = ((3 * i + 1 : Nat) : Int) := w32_s (by omega)
      have w2 : w32 (((3 * i : Nat) : Int) + 2) = ((3 * i + 2 : Nat) : Int) := by rw [w32_le (by omega) (by omega)]; omega
      rw [w0, w1, w2, Int.toNat_natCast, Int.toNat_natCast, Int.toNat_natCast, Int.toNat_natCast]
      have g : ∀ j, j < L → μ1 34 1 j = T j := fun j hj => by rw [f1 34 1 j (by omega)]; exact t2 j hj
      refine ⟨⟨by omega, by omega⟩, ⟨by omega, by omega⟩, fun μ3 e3 => ⟨⟨by omega, by omega⟩, ⟨by omega, by omega⟩, fun μ4 e4 => ⟨⟨by omega, by omega⟩, ⟨by omega, by omega⟩, fun μ5 e5 x4 ex => ?_⟩⟩⟩
      rw [w32_s (by omega)] at ex
      subst ex
      rw [g _ (by omega)] at e3
      rw [e3, m_up_ne (a := 34) (b := 1) μ1 _ (by omega), g _ (by omega)] at e4
      rw [e4, m_up_ne (a := 34) (b := 1) _ _ (by omega), m_up_ne (a := 34) (b := 1) _ _ (by omega), g _ (by omega)] at e5
      refine ih (i + 1) μ5 (by omega) (fun x y z q => ?_) ?_ (fun j hj => ?_)
      · rw [e5, m_up_ne _ _ (by omega), m_up_ne _ _ (by omega), m_up_ne _ _ (by omega)]; exact f1 x y z q
      · rw [e5, m_up_ne _ _ (by omega), m_up_ne _ _ (by omega), m_up_ne _ _ (by omega)]; exact f2
      · by_cases z : j = i
        · subst z
          refine ⟨?_, ?_, ?_⟩
          · rw [e5, m_up_ne _ _ (by omega), m_up_ne _ _ (by omega), m_up_at]
          · rw [e5, m_up_ne _ _ (by omega), m_up_at]
          · rw [e5, m_up_at]
        · rw [e5, m_up_ne _ _ (by omega), m_up_ne _ _ (by omega), m_up_ne _ _ (by omega), m_up_ne _ _ (by omega), m_up_ne _ _ (by omega), m_up_ne _ _ (by omega), m_up_ne _ _ (by omega), m_up_ne _ _ (by omega), m_up_ne _ _ (by omega)]
          exact f3 j (by omega)
  have L1 : ∀ (r i : Nat), i + r = n → (∀ j, j < i → okRow T (tw_nc A) j) → mW G X YX12_see μ2 34 [some (vR 34 0), some (vI (L : Int)), some (vI 1), some (vI ((3 * i : Nat) : Int))] [] := by
    intro r
    induction r with
    | zero =>
      intro i hi hj
      refine VX12_see_34 C R ⟨fun _ => ⟨fun _ μ3 e3 => ?_, fun q => absurd q (by decide)⟩, fun q => absurd (by omega) q⟩
      rw [tdiv3, w32_le (by omega) (by omega)] at e3
      refine L2 ⟨⟨by omega, by omega, by omega⟩, fun j hj2 => hj j (by omega)⟩ n 0 μ3 (by omega) (fun x y z q => ?_) ?_ (fun j hj => by omega)
      · rw [e3, m_up_ne _ _ (by omega)]
      · rw [e3, m_up_at, show L / 3 = n by omega]
    | succ r ih =>
      intro i hi hj
      have g0 := hT (3 * i) (by omega)
      have g1 := hT (3 * i + 1) (by omega)
      have g2 := hT (3 * i + 2) (by omega)
      refine VX12_see_34 C R ⟨fun q => absurd q (by omega), fun _ => ⟨fun q => absurd q (by decide), fun _ => ?_⟩⟩
      have w1 : w32 (((3 * i : Nat) : Int) + 1) = ((3 * i + 1 : Nat) : Int) := w32_s (by omega)
      have w2 : w32 (((3 * i : Nat) : Int) + 2) = ((3 * i + 2 : Nat) : Int) := by rw [w32_le (by omega) (by omega)]; omega
      have w3 : w32 (((3 * i : Nat) : Int) + 3) = ((3 * (i + 1) : Nat) : Int) := by rw [w32_le (by omega) (by omega)]; omega
      rw [w1, w2, w3, Int.toNat_natCast, Int.toNat_natCast, Int.toNat_natCast, t2 _ (by omega)]
      refine ⟨⟨by omega, by omega⟩, EX12_isChild ⟨fun q => absurd q (by omega), fun _ => ?_⟩⟩
      rw [hM2.1, Int.toNat_natCast, hM2.nc, t2 _ (by omega), t2 _ (by omega)]
      refine ⟨⟨by omega, by omega⟩, fun q => ⟨fun _ x e => ?_, z0⟩, fun q => ⟨z1, fun _ => ⟨⟨by omega, by omega⟩, fun q => fun x e => ?_, fun q2 => ⟨⟨by omega, by omega⟩, fun q3 => fun x e => ?_, fun q3 => fun x e => ?_⟩⟩⟩⟩
      · subst e; exact no _ (fun z => by have := (z.2 i (by omega)).1; omega)
      · subst e; exact no _ (fun z => by have := (z.2 i (by omega)).2.1; omega)
      · subst e; exact no _ (fun z => by have := (z.2 i (by omega)).2.2; omega)
      · subst e
        refine ih (i + 1) (by omega) (fun j hj2 => ?_)
        by_cases z : j = i
        · subst z; exact ⟨by omega, by omega, by omega⟩
        · exact hj j (by omega)
  exact L1 n 0 (by omega) (fun j hj => by omega)
theorem S_see : SIM G YX11_see YX12_see [] := by
  intro d μ ⟨A, t, s, b, h⟩
  obtain ⟨L, hL, e1, e2, hi⟩ := h.2.2.2.1
  have hA := h.1.1.2.2.2.1
  refine EX11_see (fun x1 ex1 μ2 em2 => ?_)
  rw [e1] at ex1
  subst ex1
  have q2 : ∀ x y z, ¬ (x = 1 ∧ y = 0 ∧ z = 1) → μ2 x y z = μ x y z := fun x y z q => by rw [em2, m_up_ne _ _ q]
  have et : ∀ y z, μ2 t y z = μ t y z := fun y z => q2 t y z (by rcases h.1.2.2.2.1 with z | z <;> omega)
  refine ⟨t, by rw [q2 1 0 2 (by omega)]; exact h.1.2.2.1.1, h.1.1.1, ?_⟩
  rw [et, h.1.1.nc]
  refine c_see (T := μ 34 1) (fun i hi2 => ⟨(hi i hi2).1, by rw [q2 1 1 i (by omega)]; exact (hi i hi2).2⟩) hL (fun hok μ1 f1 f2 f3 => ⟨z1, fun _ => ?_⟩) (fun hok => ⟨fun _ => cl_rN (w := 5) (by decide) ?_, z0⟩)
  · rw [f2]
    have q1 : ∀ x y z, ¬ (x = 8 ∧ (y = 5 ∨ y = 0 ∧ z = 0)) → ¬ (x = 1 ∧ y = 0 ∧ z = 1) → μ1 x y z = μ x y z := fun x y z a c => (f1 x y z a).trans (q2 x y z c)
    have hM1 : MT μ1 b A := h.1.2.1.mv (fun x c hx => q1 34 x c (by omega) (by omega))
    refine mo_see (T := μ 34 1) hM1 (fun i hi2 => ⟨(hi i hi2).1, q1 34 1 i (by omega) (by omega)⟩) (by rw [q1 34 0 1 (by omega) (by omega)]; exact e2) hL (fun _ μ3 g1 g2 g3 g4 => ⟨rfl, A, t, s, b, ?_⟩) (fun z => absurd hok z)
    have e : ∀ x y z, ¬ (x = 8 ∧ (y = 5 ∨ y = 0 ∧ z = 0)) → ¬ (x = 1 ∧ y = 0 ∧ z = 1) → ¬ (x = 34 ∧ (62 ≤ y ∧ y ≤ 64 ∨ y = 0 ∧ (z = 60 ∨ z = 1))) → μ3 x y z = μ x y z := fun x y z a c f => (g1 x y z f).trans (q1 x y z a c)
    obtain ⟨r1, r2, r3, r4, r5, r6, r7, r8, r9⟩ := h
    have hk := hok.1
    refine ⟨r1.rd (fun x y z q => e x y z (by unfold rd_town at q; omega) (by unfold rd_town at q; omega) (by unfold rd_town at q; omega)), R_now.rd r2 (fun x y z q => e x y z (by unfold rd_now at q; omega) (by unfold rd_now at q; omega) (by unfold rd_now at q; omega)), r3.rd (fun x y z q => e x y z (by unfold rd_undo at q; omega) (by unfold rd_undo at q; omega) (by unfold rd_undo at q; omega)), ⟨0, by omega, ?_, g2, fun i hi => by omega⟩, r5.rd (fun x y z q => e x y z (by unfold rd_misc at q; omega) (by unfold rd_misc at q; omega) (by unfold rd_misc at q; omega)), ⟨L / 3, by omega, ?_, g3, fun i hi2 => ?_⟩, r7.rd (fun x y z q => e x y z (by unfold rd_best at q; omega) (by unfold rd_best at q; omega) (by unfold rd_best at q; omega)), r8.rd (fun x y z q => e x y z (by unfold rd_img at q; omega) (by unfold rd_img at q; omega) (by unfold rd_img at q; omega)), R_own.rd r9 (fun y z => e 3 y z (by omega) (by omega) (by omega))⟩
    · rw [g1 1 0 1 (by omega), f1 1 0 1 (by omega), em2, m_up_at]; rfl
    · rw [g1 8 0 0 (by omega)]; exact f2
    · have v := g4 i (by omega)
      have ok := hok.2 i (by omega)
      have b0 := (hi (3 * i) (by omega)).1
      have b1 := (hi (3 * i + 1) (by omega)).1
      have b2 := (hi (3 * i + 2) (by omega)).1
      unfold okRow at ok
      rw [v.1, v.2.1, v.2.2, g1 8 5 _ (by omega), g1 8 5 _ (by omega), g1 8 5 _ (by omega), f3 _ (by omega), f3 _ (by omega), f3 _ (by omega)]
      exact ⟨⟨rfl, rfl, rfl⟩, ⟨by omega, by omega⟩, ⟨by omega, by omega⟩, ⟨by omega, by omega⟩⟩
  · obtain ⟨μ1, em1⟩ : ∃ μ1, μ1 = m_up μ2 1 13 5 (w32 (μ2 1 13 5 + 1)) := ⟨_, rfl⟩
    rw [← em1]
    have q1 : ∀ x y z, ¬ (x = 1 ∧ (y = 13 ∨ y = 0 ∧ z = 1)) → μ1 x y z = μ x y z := fun x y z a => by rw [em1, m_up_ne _ _ (by omega)]; exact q2 x y z (by omega)
    have hM1 : MT μ1 b A := h.1.2.1.mv (fun x c hx => q1 34 x c (by omega))
    refine mo_see (T := μ 34 1) hM1 (fun i hi2 => ⟨(hi i hi2).1, q1 34 1 i (by omega)⟩) (by rw [q1 34 0 1 (by omega)]; exact e2) hL (fun z => absurd z hok) (fun _ => ⟨rfl, A, t, s, b, ?_⟩)
    refine h.tz (fun x y z a c => ?_) ?_ ?_ (fun i hi => ?_)
    · rw [m_up_ne _ _ (by omega), m_up_ne _ _ (by omega)]; exact q1 x y z a
    · rw [m_up_ne _ _ (by omega), m_up_ne _ _ (by omega), em1, m_up_ne _ _ (by omega), em2, m_up_at]
    · rw [m_up_ne _ _ (by omega), m_up_at]
    · have e5 := h.2.2.2.2.1.2.2 i hi
      by_cases z : i = 5
      · subst z
        rw [m_up_at, m_up_ne _ _ (by omega), m_up_ne _ _ (by omega), em1, m_up_at, m_up_ne _ _ (by omega), q2 34 42 5 (by omega), q2 1 13 5 (by omega), e5]
      · rw [m_up_ne _ _ (by omega), m_up_ne _ _ (by omega), m_up_ne _ _ (by omega), m_up_ne _ _ (by omega), q1 34 42 i (by omega), em1, m_up_ne _ _ (by omega), q2 1 13 i (by omega)]; exact e5
/-! seen -/
noncomputable def seeF (μ : m_M) (A : m_T) (heat : Nat) : Bool := bl (∀ i : Nat, (i : Int) < μ 8 0 0 → p_ring A (μ 8 5 (3 * i)).toNat heat (μ 8 5 (3 * i + 1)) (μ 10 0 0) = μ 8 5 (3 * i + 2))
theorem seeF_fr {μ μ1 : m_M} {A : m_T} (h : ofS μ μ1) : seeF μ1 A = seeF μ A := by
  funext heat
  unfold seeF
  have s0 : μ1 8 0 0 = μ 8 0 0 := h 8 0 0 (fun z => by unfold scr at z; omega)
  have s5 : ∀ c, μ1 8 5 c = μ 8 5 c := fun c => h 8 5 c (fun z => by unfold scr at z; omega)
  simp only [s0, s5, fr10 h]
theorem cl_left {d : Nat} {μ : m_M} {A : m_T} {t s b : Nat} (h : RA μ A t s b) {K : Int → m_M → Prop} (k : ∀ μ1, off5 μ μ1 → K (m_bits (seeF μ A) 21 0 0) μ1) : c_i G (d + 8) YX8_heatsLeft [vR 8 0, vR 4 0, vI (μ 10 0 0)] μ K := by
  obtain ⟨f, hf⟩ : ∃ f, f = seeF μ A := ⟨_, rfl⟩
  rw [← hf] at k
  have one : ∀ (μ1 : m_M) (i : Nat) (K' : Int → m_M → Prop), i < 21 → off5 μ μ1 → (∀ μ2, off5 μ μ2 → K' (if f i then 1 else 0) μ2) → c_i G (d + 7) YX8_allRingSo [vR 8 0, vR 4 0, vI (μ 10 0 0), vI (i : Int)] μ1 K' := by
    intro μ1 i K' hi o1 kk
    obtain ⟨n, hn, n1, n2, nr⟩ := h.2.2.2.2.2.1
    refine EX8_allRingSo (fun X C R => ?_)
    have L : ∀ (r j : Nat) (μ1 : m_M), j + r = n → off5 μ μ1 → (∀ q : Nat, q < j → p_ring A (μ 8 5 (3 * q)).toNat i (μ 8 5 (3 * q + 1)) (μ 10 0 0) = μ 8 5 (3 * q + 2)) → mW G X YX8_allRingSo μ1 3 [some (vR 8 0), some (vR 4 0), some (vI (μ 10 0 0)), some (vI (i : Int)), some (vI ((3 * j : Nat) : Int))] [] := by
      intro r
      induction r with
      | zero =>
        intro j μ1 hj o1 hq
        refine VX8_allRingSo_3 C R ?_
        rw [o1 8 0 0 (by decide), n1, w32_le (by omega) (by omega)]
        refine ⟨fun _ => ?_, fun q => absurd (by omega) q⟩
        have := kk μ1 o1
        rw [hf, show seeF μ A i = true from bl_t (fun q hq2 => hq q (by omega))] at this
        exact this
      | succ r ih =>
        intro j μ1 hj o1 hq
        obtain ⟨-, v0, v1, v2⟩ := nr j (by omega)
        refine VX8_allRingSo_3 C R ?_
        have w1 : w32 (((3 * j : Nat) : Int) + 1) = ((3 * j + 1 : Nat) : Int) := w32_s (by omega)
        have w2 : w32 (((3 * j : Nat) : Int) + 2) = ((3 * j + 2 : Nat) : Int) := by rw [w32_le (by omega) (by omega)]; omega
        have w3 : w32 (((3 * j : Nat) : Int) + 3) = ((3 * (j + 1) : Nat) : Int) := by rw [w32_le (by omega) (by omega)]; omega
        rw [o1 8 0 0 (by decide), n1, w32_le (z := (n : Int) * 3) (by omega) (by omega), w1, w2, w3, Int.toNat_natCast, Int.toNat_natCast, Int.toNat_natCast, o1 8 5 _ (by decide), o1 8 5 _ (by decide)]
        refine ⟨fun q => absurd q (by omega), fun _ => ⟨⟨by omega, by omega⟩, ⟨by omega, by omega⟩, ?_⟩⟩
        obtain ⟨c, hc⟩ : ∃ c : Nat, μ 8 5 (3 * j) = (c : Int) := ⟨(μ 8 5 (3 * j)).toNat, by omega⟩
        rw [hc]
        refine c_temperOf (h.1.1.off o1) (by omega) (by unfold sm; omega) (by omega) (by unfold sm; omega) h.2.1.sw (fun μ2 o2 => ?_)
        have o12 := o1.tr o2
        rw [o12 8 5 _ (by decide)]
        refine ⟨⟨by omega, by omega⟩, fun q x3 e3 => ?_, fun q => ?_⟩
        · subst e3
          refine ih (j + 1) μ2 (by omega) o12 (fun i' hi' => ?_)
          by_cases z : i' = j
          · subst z; rw [hc, Int.toNat_natCast]; exact q
          · exact hq i' (by omega)
        · have := kk μ2 o12
          rw [hf, show seeF μ A i = false from bl_f (fun z => q (by have := z j (by omega); rw [hc, Int.toNat_natCast] at this; exact this))] at this
          exact this
    exact L n 0 μ1 (by omega) o1 (fun q hq => by omega)
  refine EX8_heatsLeft (fun X C R => ?_)
  have L : ∀ (r i : Nat) (a : Int) (μ1 : m_M), i + r = 21 → off5 μ μ1 → m_bits f r i a = m_bits f 21 0 0 → mW G X YX8_heatsLeft μ1 5 [some (vR 8 0), some (vR 4 0), some (vI (μ 10 0 0)), some (vI a), some (vI (i : Int))] [] := by
    intro r
    induction r with
    | zero =>
      intro i a μ1 hi o1 e
      refine VX8_heatsLeft_5 C R ⟨fun _ => ?_, fun q => absurd (by omega) q⟩
      have := k μ1 o1
      rw [← e] at this
      exact this
    | succ r ih =>
      intro i a μ1 hi o1 e
      obtain ⟨Z, hZ⟩ : ∃ Z, Z = m_bits f 21 0 0 := ⟨_, rfl⟩
      rw [← hZ] at e
      unfold m_bits at e
      refine VX8_heatsLeft_5 C R ⟨fun q => absurd q (by omega), fun _ => one μ1 i _ (by omega) o1 (fun μ2 o2 => ?_)⟩
      by_cases q : f i = true
      · rw [if_pos q] at e ⊢
        refine ⟨z1, fun _ x4 e4 x5 e5 => ?_⟩
        rw [w32_s (by omega)] at e5
        subst e4; subst e5
        exact ih (i + 1) _ μ2 (by omega) o2 (by rw [← hZ]; exact e)
      · rw [if_neg q] at e ⊢
        refine ⟨fun _ x5 e5 => ?_, z0⟩
        rw [w32_s (by omega)] at e5
        subst e5
        exact ih (i + 1) _ μ2 (by omega) o2 (by rw [← hZ]; exact e)
  exact L 21 0 0 μ (by omega) (off5.rf μ) rfl
theorem mo_seen {d : Nat} {μ : m_M} {A : m_T} {t s b : Nat} (h : RA μ A t s b) {K : Int → m_M → Prop} (k : ∀ μ1, offM μ μ1 → K (m_bits (seeF μ A) 21 0 0) μ1) : c_i G (d + 5) YX12_seen [vR 34 0] μ K := by
  obtain ⟨f, hf⟩ : ∃ f, f = seeF μ A := ⟨_, rfl⟩
  rw [← hf] at k
  obtain ⟨n, hn, n1, n2, nr⟩ := h.2.2.2.2.2.1
  refine EX12_seen (fun X C R => ?_)
  have L : ∀ (r i : Nat) (a : Int) (μ1 : m_M), i + r = 21 → bt a → offM μ μ1 → m_bits f r i a = m_bits f 21 0 0 → mW G X YX12_seen μ1 4 [some (vR 34 0), some (vI a), some (vI (i : Int)), none, none] [] := by
    intro r
    induction r with
    | zero =>
      intro i a μ1 hi ha o1 e
      refine VX12_seen_4 C R ⟨fun _ => ?_, fun q => absurd (by omega) q⟩
      have := k μ1 o1
      rw [← e] at this
      exact this
    | succ r ih =>
      intro i a μ1 hi ha o1 e
      obtain ⟨Z, hZ⟩ : ∃ Z, Z = m_bits f 21 0 0 := ⟨_, rfl⟩
      rw [← hZ] at e
      unfold m_bits at e
      refine VX12_seen_4 C R ⟨fun q => absurd q (by omega), fun _ => ?_⟩
      have I : ∀ (r2 j : Nat) (l : Int) (μ1 : m_M), j + r2 = n → offM μ μ1 → (l = 1 ∧ (∀ q : Nat, q < j → p_ring A (μ 8 5 (3 * q)).toNat i (μ 8 5 (3 * q + 1)) (μ 10 0 0) = μ 8 5 (3 * q + 2)) ∨ l = 0 ∧ f i = false) → mW G X YX12_seen μ1 15 [some (vR 34 0), some (vI a), some (vI (i : Int)), some (vI l), some (vI (j : Int))] [] := by
        intro r2
        induction r2 with
        | zero =>
          intro j l μ1 hj o1 hl
          refine VX12_seen_15 C R ?_
          rw [o1 34 0 60 (by omega), n2, w32_s (by omega)]
          refine ⟨fun _ => ⟨fun q x1 e1 x2 e2 => ?_, fun q x1 e1 x2 e2 => ?_⟩, fun q => absurd (by omega) q⟩
          · subst e2
            rw [i_or_0 ha] at e1
            subst e1
            have hff : f i = false := by rcases hl with ⟨z, -⟩ | ⟨-, z⟩; omega; exact z
            rw [hff] at e
            exact ih (i + 1) _ μ1 (by omega) ha o1 (by rw [← hZ]; exact e)
          · subst e2
            subst e1
            have hff : f i = true := by
              rcases hl with ⟨-, z⟩ | ⟨z, -⟩
              · rw [hf]; exact bl_t (fun q hq => z q (by omega))
              · exact absurd z q
            rw [hff] at e
            exact ih (i + 1) _ μ1 (by omega) (bt_or ha (bt_shl (by omega))) o1 (by rw [← hZ]; exact e)
        | succ r2 ih2 =>
          intro j l μ1 hj o1 hl
          obtain ⟨v, v0, v1, v2⟩ := nr j (by omega)
          refine VX12_seen_15 C R ?_
          have ej : w32 ((j : Int) + 1) = ((j + 1 : Nat) : Int) := w32_s (by omega)
          rw [o1 34 0 60 (by omega), n2, ej, Int.toNat_natCast, o1 34 62 _ (by omega), o1 34 63 _ (by omega), v.1, v.2.1]
          refine ⟨fun q => absurd q (by omega), fun _ => ⟨fun q x6 e6 => ?_, fun q => ⟨⟨by omega, by omega⟩, ⟨by omega, by omega⟩, ?_⟩⟩⟩
          · subst e6
            have hff : f i = false := by rcases hl with ⟨z, -⟩ | ⟨-, z⟩; omega; exact z
            exact ih2 (j + 1) 0 μ1 (by omega) o1 (Or.inr ⟨rfl, hff⟩)
          · have hq := (hl.resolve_right (fun z => q z.1)).2
            obtain ⟨c, hc⟩ : ∃ c : Nat, μ 8 5 (3 * j) = (c : Int) := ⟨(μ 8 5 (3 * j)).toNat, by omega⟩
            have h1 := h.fS o1.S
            have w1 := h1.2.1.w.1
            rw [hc]
            refine cm_ring (v := 0) h1.1.2.1 (by decide) (by omega) (by unfold sm; omega) (by unfold sm; omega) (by rw [w1]; exact h1.2.1.sw) (fun μ2 o2 => ?_)
            have o12 := o1.tr o2
            rw [w1, fr10 o1.S, o12 34 64 _ (by omega), v.2.2]
            refine ⟨⟨by omega, by omega⟩, fun q2 x e3 => ?_, fun q2 x e3 => ?_⟩
            · subst e3
              refine ih2 (j + 1) 0 μ2 (by omega) o12 (Or.inr ⟨rfl, ?_⟩)
              rw [hf]
              exact bl_f (fun z => q2 (by have := z j (by omega); rw [hc, Int.toNat_natCast] at this; exact this))
            · subst e3
              refine ih2 (j + 1) 1 μ2 (by omega) o12 (Or.inl ⟨rfl, fun i' hi' => ?_⟩)
              by_cases z : i' = j
              · subst z; rw [hc, Int.toNat_natCast]; exact q2
              · exact hq i' (by omega)
      exact I n 0 1 μ1 (by omega) o1 (Or.inl ⟨rfl, fun q hq => by omega⟩)
  exact L 21 0 0 μ (by omega) ⟨by omega, by omega⟩ (offM.rf μ) rfl
theorem S_seen : SIM G YX11_seen YX12_seen [] := by
  intro d μ ⟨A, t, s, b, h⟩
  refine EX11_seen (cl_left h (fun μ1 o1 => ?_))
  have h1 := h.fS o1.S
  refine mo_seen h1 (fun μ2 o2 => ⟨by rw [seeF_fr o1.S], A, t, s, b, h1.fS o2.S⟩)
end SE
