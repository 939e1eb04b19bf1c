/-! ===== ahead: fired, fuel, later, odds ===== -/
noncomputable def p_it (A : m_T) : Nat → (Nat → Nat → Int) → Nat → Nat → Int
  | 0, B => B
  | k + 1, B => (p_week A (p_it A k B) 0).1
theorem p_it_BI {A : m_T} (hA : TA A) {B : Nat → Nat → Int} (hB : BI A B) : ∀ k : Nat, B 0 0 + (k : Int) ≤ 999 → BI A (p_it A k B) ∧ p_it A k B 0 0 = B 0 0 + (k : Int) := by
  intro k
  induction k with
  | zero => intro _; exact ⟨hB, by unfold p_it; omega⟩
  | succ k ih =>
    intro hk
    obtain ⟨h1, h2⟩ := ih (by omega)
    have := BI.week (gust := 0) hA h1 (by omega)
    unfold p_it
    exact ⟨this.1, by rw [this.2.1, h2]; omega⟩
theorem p_kl_lit {A : m_T} {gust : Int} {j : Nat} : ∀ (r k : Nat) (B : Nat → Nat → Int) (n : Int), B 8 j = -1 → (p_kl A gust r k B n).1 8 j = -1 := by
  intro r
  induction r with
  | zero => intro k B n h; exact h
  | succ r ih =>
    intro k B n h
    unfold p_kl
    split
    · refine ih (k + 1) _ _ ?_
      rw [p_fire_8]
      split
      · rfl
      · exact h
    · exact ih (k + 1) _ _ h
theorem p_week_lit {A : m_T} {gust : Int} {j : Nat} {B : Nat → Nat → Int} (h : B 8 j = -1) : (p_week A B gust).1 8 j = -1 := by
  unfold p_week
  dsimp only
  rw [bu_ne _ _ (by omega)]
  refine p_kl_lit _ _ _ _ ?_
  unfold p_load
  rw [bu_ne _ _ (by omega)]
  exact h
theorem p_it_lit {A : m_T} {j : Nat} {B : Nat → Nat → Int} (h : B 8 j = -1) : ∀ k, p_it A k B 8 j = -1 := by
  intro k
  induction k with
  | zero => exact h
  | succ k ih => unfold p_it; exact p_week_lit ih
theorem R_lay.beq0 {μ : m_M} {A : m_T} {o v : Nat} (h : R_lay μ A o v) : beq (mK A (μ 34) v) (μ o) := h.2.1
section AH
variable {G : m_G} {d : Nat} {μ : m_M} {A : m_T} {t s b : Nat}
/-- the class looks n weeks ahead -/
theorem cl_copy (h : RA μ A t s b) {K : m_M → Prop} (k : ∀ μ1, ofo 11 μ μ1 → beq (μ1 11) (μ 10) → K μ1) : c_v G (d + 1) YX0_copyFrom [vR 11 0, vR 10 0] μ K :=
  c_copyFrom (by decide) (by decide) (by decide) h.2.1.1 (fun μ1 o1 e1 => k μ1 (fun a b c _ ha => o1 a b c ha) e1)
theorem cl_pass {μ1 : m_M} (h : RA μ A t s b) (o1 : ofo 11 μ μ1) {k : Nat} (hk : μ 10 0 0 + (k : Int) < 999) (e1 : beq (μ1 11) (p_it A k (μ 10))) {K : Int → m_M → Prop} (kk : ∀ r μ2, ofo 11 μ μ2 → beq (μ2 11) (p_it A (k + 1) (μ 10)) → K r μ2) : c_i G (d + 10) YX4_passWeek [vR 4 0, vR 11 0, vI 0] μ1 K := by
  have hA := h.1.1.2.2.2.1
  have h1 := h.fS o1.S
  obtain ⟨hB, hB0⟩ := p_it_BI hA h.2.1.1 k (by omega)
  have hB1 := e1.sy.BI hB
  have w : μ1 11 0 0 = μ 10 0 0 + (k : Int) := e1.1.1.trans hB0
  refine c_passWeek h1.1.1 (by decide) hB1 (by omega) (by omega) (fun μ2 o2 e2 => kk _ μ2 (o1.tr o2) ?_)
  rw [e2]
  exact (p_week_beq hA hB1 e1).1
theorem cl_look (h : RA μ A t s b) {n : Nat} (hn : n ≤ 40) (hw : μ 10 0 0 + (n : Int) ≤ 999) {K : Int → m_M → Prop} (k : ∀ μ1, ofo 11 μ μ1 → beq (μ1 11) (p_it A n (μ 10)) → K 1 μ1) : c_i G (d + 12) YX11_lookAhead [vR 1 0, vI (n : Int)] μ K := by
  have hwk := h.2.1.1.1
  have L : ∀ X : m_X, mC G X YX11_lookAhead (d + 11 + 1) → r_i G X K → ∀ (r i : Nat) (μ1 : m_M), i + r = n → ofo 11 μ μ1 → beq (μ1 11) (p_it A i (μ 10)) → mW G X YX11_lookAhead μ1 27 [some (vR 1 0), some (vI (n : Int)), some (vI (i : Int))] [] := by
    intro X C R r
    induction r with
    | zero =>
      intro i μ1 hi o1 e1
      refine VX11_lookAhead_27 C R ⟨fun _ => ?_, fun q => absurd (by omega) q⟩
      rw [show i = n by omega] at e1
      exact k μ1 o1 e1
    | succ r ih =>
      intro i μ1 hi o1 e1
      refine VX11_lookAhead_27 C R ⟨fun q => absurd q (by omega), fun _ => cl_pass h o1 (by omega) e1 (fun _ μ2 o2 e2 x3 e3 => ?_)⟩
      rw [w32_s (by omega)] at e3
      subst e3
      exact ih (i + 1) μ2 (by omega) o2 e2
  refine EX11_lookAhead (fun X C R => ⟨fun _ => cl_copy h (fun μ1 o1 e1 => L X C R n 0 μ1 (by omega) o1 e1), fun q => ?_⟩)
  have ew : w32 (μ 10 0 0 + (n : Int)) = μ 10 0 0 + (n : Int) := w32_le (by omega) (by omega)
  refine EX11_canPass ⟨fun q => absurd q (by omega), fun _ => ⟨fun q => absurd q (by omega), fun _ => ⟨fun q => absurd q (by rw [ew]; omega), fun _ => ⟨fun _ => cl_copy h (fun μ1 o1 e1 => L X C R n 0 μ1 (by omega) o1 e1), z1⟩⟩⟩⟩
theorem cl_look_n (h : RA μ A t s b) {n : Int} (hn : ¬ (0 ≤ n ∧ n ≤ 40 ∧ μ 10 0 0 + n ≤ 999)) {K : Int → m_M → Prop} (k : K 0 μ) : c_i G (d + 12) YX11_lookAhead [vR 1 0, vI n] μ K := by
  have hwk := h.2.1.1.1
  refine EX11_lookAhead (fun X C R => ⟨fun q => absurd hn (by omega), fun q => EX11_canPass ⟨fun _ => ⟨z0, fun _ => k⟩, fun q1 => ⟨fun _ => ⟨z0, fun _ => k⟩, fun q2 => ⟨fun _ => ⟨z0, fun _ => k⟩, fun q3 => absurd q3 ?_⟩⟩⟩⟩)
  rw [w32_le (by omega) (by omega)]
  omega
theorem mo_copy (h : RA μ A t s b) {μ0 : m_M} (h0 : ofL 1 μ μ0) {K : m_M → Prop} (k : ∀ μ1, ofL 1 μ μ1 → in8 (μ1 34 49 1) → beq (mK A (μ1 34) 1) (μ 10) → K μ1) : c_v G (d + 1) YX12_copies [vR 34 0, vI 1, vI 0] μ0 K := by
  have hf := h.2.1.fir
  have w := h.2.1.w.2.2
  have hr0 := (h.fS h0.S).2.1
  have f0 := fr10 h0.S
  have w0 : μ0 34 51 0 = μ 10 0 9 := by rw [hr0.w.2.2, f0]
  refine cm_copiesK (A := A) (x := 1) (y := 0) (by decide) (by decide) (by decide) (by rw [w0]; exact hf) (fun μ1 o1 _ e49 e1 => k μ1 (h0.tr o1) ?_ ?_)
  · rw [e49]; exact hr0.2.2
  · have := e1.tr hr0.2.1
    rw [f0] at this
    exact this
theorem mo_tick {μ1 : m_M} (h : RA μ A t s b) (o1 : ofL 1 μ μ1) (i8 : in8 (μ1 34 49 1)) {k : Nat} (hk : μ 10 0 0 + (k : Int) < 999) (e1 : beq (mK A (μ1 34) 1) (p_it A k (μ 10))) {K : m_M → Prop} (kk : ∀ μ2, ofL 1 μ μ2 → in8 (μ2 34 49 1) → beq (mK A (μ2 34) 1) (p_it A (k + 1) (μ 10)) → (0 ≤ μ2 34 0 57 ∧ μ2 34 0 57 < 8) → (∀ j, j < 3 → (tb (μ2 34 0 57) j = true ↔ p_it A k (μ 10) 8 j ≠ -1 ∧ p_it A (k + 1) (μ 10) 8 j = -1)) → K μ2) : c_v G (d + 7) YX12_ticks [vR 34 0, vI 1, vI 0] μ1 K := by
  have hA := h.1.1.2.2.2.1
  have h1 := h.fS o1.S
  obtain ⟨hB, hB0⟩ := p_it_BI hA h.2.1.1 k (by omega)
  have hB1 := e1.sy.BI hB
  have w : μ1 34 43 1 = μ 10 0 0 + (k : Int) := e1.1.1.trans hB0
  refine cm_ticksK (v := 1) h1.1.2.1 (by decide) hB1 i8 (gust := 0) (by omega) (by omega) (fun μ2 o2 j8 e2 b57 t57 _ => kk μ2 (o1.tr o2) j8 ?_ b57 (fun j hj => ?_))
  · exact e2.tr (p_week_beq hA hB1 e1).1
  · rw [t57 j hj, e1.2.2.1 j hj, (p_week_beq (gust := 0) hA hB1 e1).1.2.2.1 j hj]
    rfl
theorem mo_tries (h : RA μ A t s b) {n : Nat} (hn : n ≤ 40) (hw : μ 10 0 0 + (n : Int) ≤ 999) {K : m_M → Prop} (k : ∀ μ1, ofL 1 μ μ1 → in8 (μ1 34 49 1) → beq (mK A (μ1 34) 1) (p_it A n (μ 10)) → K μ1) : c_v G (d + 9) YX12_tries [vR 34 0, vI (n : Int)] μ K := by
  refine EX12_tries (fun X C R => mo_copy h (ofL.rf 1 μ) (fun μ1 o1 i1 e1 => ?_))
  have L : ∀ (r i : Nat) (μ1 : m_M), i + r = n → ofL 1 μ μ1 → in8 (μ1 34 49 1) → beq (mK A (μ1 34) 1) (p_it A i (μ 10)) → mW G X YX12_tries μ1 8 [some (vR 34 0), some (vI (n : Int)), some (vI (i : Int))] [] := by
    intro r
    induction r with
    | zero =>
      intro i μ1 hi o1 i1 e1
      refine VX12_tries_8 C R ⟨fun _ => ?_, fun q => absurd (by omega) q⟩
      rw [show i = n by omega] at e1
      exact k μ1 o1 i1 e1
    | succ r ih =>
      intro i μ1 hi o1 i1 e1
      refine VX12_tries_8 C R ⟨fun q => absurd q (by omega), fun _ => mo_tick h o1 i1 (by omega) e1 (fun μ2 o2 i2 e2 _ _ x3 e3 => ?_)⟩
      rw [w32_s (by omega)] at e3
      subst e3
      exact ih (i + 1) μ2 (by omega) o2 i2 e2
  exact L n 0 μ1 (by omega) o1 i1 e1
theorem mo_ah_y (h : RA μ A t s b) {n lo hi : Int} (hy : lo ≤ n ∧ n ≤ hi) (hb : 0 ≤ n ∧ n ≤ 1000) (hw : μ 10 0 0 + n ≤ 999) {K : Int → m_M → Prop} (k : K 1 μ) : c_i G (d + 2) YX12_isAhead [vR 34 0, vI n, vI lo, vI hi] μ K := by
  refine EX12_isAhead (mo_is_y hy ⟨z1, fun _ => ?_⟩)
  rw [h.2.1.w.1, w32_le (by omega) (by omega)]
  exact ⟨fun q => absurd q (by omega), fun _ => k⟩
theorem mo_ah_n (h : RA μ A t s b) {n lo hi : Int} (hb : lo ≤ n ∧ n ≤ hi → 0 ≤ n ∧ n ≤ 1000) (hn : ¬ (lo ≤ n ∧ n ≤ hi ∧ μ 10 0 0 + n ≤ 999)) {K : Int → m_M → Prop} (k : K 0 μ) : c_i G (d + 2) YX12_isAhead [vR 34 0, vI n, vI lo, vI hi] μ K := by
  by_cases hy : lo ≤ n ∧ n ≤ hi
  · have hb' := hb hy
    refine EX12_isAhead (mo_is_y hy ⟨z1, fun _ => ?_⟩)
    rw [h.2.1.w.1, w32_le (by omega) (by omega)]
    exact ⟨fun _ => k, fun q => absurd q (by omega)⟩
  · exact EX12_isAhead (mo_is_n hy ⟨fun _ => k, z0⟩)
end AH
section S6
variable {G : m_G} {a1 a2 a3 a4 : Int}
theorem S_fuel : SIM G YX11_fuel YX12_fuel [vI a1] := by
  intro d μ ⟨A, t, s, b, h⟩
  by_cases hy : 0 ≤ a1 ∧ a1 ≤ 40 ∧ μ 10 0 0 + a1 ≤ 999
  · obtain ⟨n, rfl⟩ : ∃ n : Nat, a1 = (n : Int) := ⟨a1.toNat, by omega⟩
    refine EX11_fuel (cl_look h (by omega) (by omega) (fun μ1 o1 e1 => ⟨z1, fun _ => ?_⟩))
    have h1 := h.fS o1.S
    have f1 := fr10 o1.S
    refine EX12_fuel (mo_ah_y h1 ⟨by omega, by omega⟩ (by omega) (by rw [f1]; omega) ⟨fun _ => mo_tries h1 (by omega) (by rw [f1]; omega) (fun μ2 o2 _ e2 => ⟨?_, A, t, s, b, h1.fS o2.S⟩), z1⟩)
    rw [f1] at e2
    exact e2.1.2.1.trans e1.1.2.1.symm
  · exact EX11_fuel (cl_look_n h hy ⟨fun _ => EX12_fuel (mo_ah_n h (fun q => by omega) hy ⟨z0, fun _ => ⟨rfl, A, t, s, b, h⟩⟩), z0⟩)
theorem S_later : SIM G YX11_later YX12_later [vI a1, vI a2] := by
  intro d μ ⟨A, t, s, b, h⟩
  have hR : RR μ := ⟨A, t, s, b, h⟩
  have h8 := h.1.1.2.2.2.1.1
  by_cases hc : 0 ≤ a1 ∧ a1 < (tw_nc A : Int)
  · obtain ⟨c, rfl⟩ : ∃ c : Nat, a1 = (c : Int) := ⟨a1.toNat, by omega⟩
    have ew : w32 (8 + (c : Int)) = ((8 * 1 + c : Nat) : Int) := by rw [w32_le (by omega) (by omega)]; omega
    by_cases hy : 0 ≤ a2 ∧ a2 ≤ 40 ∧ μ 10 0 0 + a2 ≤ 999
    · obtain ⟨n, rfl⟩ : ∃ n : Nat, a2 = (n : Int) := ⟨a2.toNat, by omega⟩
      refine EX11_later (cl_child_y h hc ⟨z1, fun _ => cl_look h (by omega) (by omega) (fun μ1 o1 e1 => ⟨z1, fun _ => ⟨⟨by omega, by omega⟩, ?_⟩⟩)⟩)
      have h1 := h.fS o1.S
      have f1 := fr10 o1.S
      refine EX12_later (mo_child_y h1 hc ⟨z1, fun _ => mo_ah_y h1 ⟨by omega, by omega⟩ (by omega) (by rw [f1]; omega) ⟨fun _ => mo_tries h1 (by omega) (by rw [f1]; omega) (fun μ2 o2 _ e2 => ?_), z1⟩⟩)
      rw [ew, Int.toNat_natCast, Int.toNat_natCast]
      rw [f1] at e2
      exact ⟨⟨by omega, by omega⟩, (mK_n (A := A) (by omega) (μ2 34) 1 5 c).trans ((e2.2.1 c (by omega)).2.2.1.trans (e1.2.1 c (by omega)).2.2.1.symm), A, t, s, b, h1.fS o2.S⟩
    · exact EX11_later (cl_child_y h hc ⟨z1, fun _ => cl_look_n h hy ⟨fun _ => EX12_later (mo_child_y h hc ⟨z1, fun _ => mo_ah_n h (fun q => by omega) hy ⟨z0, fun _ => ⟨rfl, hR⟩⟩⟩), z0⟩⟩)
  · exact EX11_later (cl_child_n h hc ⟨fun _ => EX12_later (mo_child_n h hc ⟨fun _ => ⟨rfl, hR⟩, z0⟩), z0⟩)
/-- when a kiln is fired: of r weeks from week k on -/
noncomputable def p_fd (A : m_T) (B : Nat → Nat → Int) (kn : Nat) : Nat → Nat → Int
  | 0, _ => -1
  | r + 1, k => if 999 ≤ B 0 0 + (k : Int) then -1 else if p_it A k B 8 kn ≠ -1 ∧ p_it A (k + 1) B 8 kn = -1 then (k : Int) else p_fd A B kn r (k + 1)
theorem p_fd_out {A : m_T} {B : Nat → Nat → Int} {kn : Nat} (h : B 8 kn = -1) : ∀ r k, p_fd A B kn r k = -1 := by
  intro r
  induction r with
  | zero => intro k; rfl
  | succ r ih =>
    intro k
    unfold p_fd
    split
    · rfl
    · split
      · next z => exact absurd (p_it_lit h k) z.1
      · exact ih (k + 1)
theorem mo_fired {d : Nat} {μ : m_M} {A : m_T} {t s b kn : Nat} (h : RA μ A t s b) (hk : kn < tw_nk A) {Z : Int} (hZ : p_fd A (μ 10) kn 40 0 = Z) : c_i G (d + 100) YX12_fired [vR 34 0, vI (kn : Int)] μ (fun r2 μ2 => r2 = Z ∧ RR μ2) := by
  have hA := h.1.1.2.2.2.1
  have hk3 : kn < 3 := Nat.lt_of_lt_of_le hk hA.2.1
  refine EX12_fired (fun X C R => mo_kiln_y h ⟨by omega, by omega⟩ ⟨fun _ => mo_copy h (ofL.rf 1 μ) (fun μ1 o1 i1 e1 => ?_), z1⟩)
  have L : ∀ (r k : Nat) (μ1 : m_M), k + r = 40 → ofL 1 μ μ1 → in8 (μ1 34 49 1) → beq (mK A (μ1 34) 1) (p_it A k (μ 10)) → p_fd A (μ 10) kn r k = Z → mW G X YX12_fired μ1 18 [some (vR 34 0), some (vI (kn : Int)), some (vI (k : Int))] [] := by
    intro r
    induction r with
    | zero =>
      intro k μ1 hk o1 i1 e1 e
      have h1 := h.fS o1.S
      refine VX12_fired_18 C R ?_
      rw [w32_s (by omega)]
      exact mo_ah_n h1 (fun q => by omega) (by omega) ⟨fun _ => ⟨e, A, t, s, b, h1⟩, z0⟩
    | succ r ih =>
      intro k μ1 hk o1 i1 e1 e
      have h1 := h.fS o1.S
      have f1 := fr10 o1.S
      unfold p_fd at e
      refine VX12_fired_18 C R ?_
      rw [w32_s (by omega)]
      by_cases q : 999 ≤ μ 10 0 0 + (k : Int)
      · rw [if_pos q] at e
        exact mo_ah_n h1 (fun q => by omega) (by rw [f1]; omega) ⟨fun _ => ⟨e, A, t, s, b, h1⟩, z0⟩
      · rw [if_neg q] at e
        refine mo_ah_y h1 ⟨by omega, by omega⟩ (by omega) (by rw [f1]; omega) ⟨z1, fun _ => mo_tick h o1 i1 (by omega) e1 (fun μ2 o2 i2 e2 b57 t57 => ?_)⟩
        have ht := tb_i (x := μ2 34 0 57) (k := kn) ⟨b57.1, by omega⟩ (by omega)
        refine EX12_has2 ⟨fun q2 => ⟨fun _ x6 e6 => ?_, z0⟩, fun q2 => ⟨z1, fun _ => ?_⟩⟩
        · subst e6
          rw [ht, t57 kn hk3] at q2
          rw [if_neg q2] at e
          exact ih (k + 1) μ2 (by omega) o2 i2 e2 e
        · rw [ht, t57 kn hk3] at q2
          rw [if_pos q2] at e
          exact ⟨e, A, t, s, b, h.fS o2.S⟩
  exact L 40 0 μ1 (by omega) o1 i1 e1 hZ
theorem S_fired : SIM G YX11_fired YX12_fired [vI a1] := by
  intro d μ ⟨A, t, s, b, h⟩
  have hR : RR μ := ⟨A, t, s, b, h⟩
  have hA := h.1.1.2.2.2.1
  have h3 := hA.2.1
  by_cases hy : 0 ≤ a1 ∧ a1 < (tw_nk A : Int)
  · obtain ⟨kn, rfl⟩ : ∃ kn : Nat, a1 = (kn : Int) := ⟨a1.toNat, by omega⟩
    have hk : kn < tw_nk A := by omega
    obtain ⟨Z, hZ⟩ : ∃ Z, p_fd A (μ 10) kn 40 0 = Z := ⟨_, rfl⟩
    by_cases hl : μ 10 8 kn = -1
    · refine EX11_fired (fun X C R => cl_kiln_y h hy ⟨z1, fun _ => ⟨⟨by omega, by omega⟩, fun q => absurd (by rw [Int.toNat_natCast]; exact hl) q, fun _ => ?_⟩⟩)
      exact mo_fired h hk (p_fd_out hl 40 0)
    · refine EX11_fired (fun X C R => cl_kiln_y h hy ⟨z1, fun _ => ⟨⟨by omega, by omega⟩, fun _ => cl_copy h (fun μ1 o1 e1 => ?_), fun q => absurd (by rw [Int.toNat_natCast] at q; exact q) hl⟩⟩)
      have fin : ∀ μ1, ofo 11 μ μ1 → ∀ r, r = Z → c_i G (d + 100) YX12_fired [vR 34 0, vI (kn : Int)] μ1 (fun r2 μ2 => r2 = r ∧ RR μ2) := fun μ1 o1 r hr => by
        rw [hr]
        refine mo_fired (h.fS o1.S) hk ?_
        rw [fr10 o1.S]
        exact hZ
      have L : ∀ (r k : Nat) (μ1 : m_M), k + r = 40 → ofo 11 μ μ1 → beq (μ1 11) (p_it A k (μ 10)) → p_it A k (μ 10) 8 kn ≠ -1 → (r ≠ 0 → μ 10 0 0 + (k : Int) ≤ 999) → p_fd A (μ 10) kn r k = Z → mW G X YX11_fired μ1 36 [some (vR 1 0), some (vI (kn : Int)), some (vI (k : Int))] [] := by
        intro r
        induction r with
        | zero =>
          intro k μ1 hk o1 e1 hl hw e
          exact VX11_fired_36 C R ⟨fun _ => fin μ1 o1 _ e, fun q => absurd (by omega) q⟩
        | succ r ih =>
          intro k μ1 hk o1 e1 hl hw e
          have hw := hw (by omega)
          have w : μ1 11 0 0 = μ 10 0 0 + (k : Int) := e1.1.1.trans (p_it_BI hA h.2.1.1 k hw).2
          unfold p_fd at e
          refine VX11_fired_36 C R ⟨fun q => absurd q (by omega), fun _ => ⟨fun q => ?_, fun q => ?_⟩⟩
          · rw [w] at q
            rw [if_pos q] at e
            exact fin μ1 o1 _ e
          · rw [w] at q
            rw [if_neg q] at e
            refine cl_pass h o1 (by omega) e1 (fun _ μ2 o2 e2 => ⟨⟨by omega, by omega⟩, fun q2 x3 e3 => ?_, fun q2 => ?_⟩)
            · rw [w32_s (by omega)] at e3
              subst e3
              rw [Int.toNat_natCast, e2.2.2.1 kn (by omega)] at q2
              rw [if_neg (fun z => q2 z.2)] at e
              exact ih (k + 1) μ2 (by omega) o2 e2 q2 (fun _ => by omega) e
            · rw [Int.toNat_natCast, e2.2.2.1 kn (by omega)] at q2
              rw [if_pos ⟨hl, q2⟩] at e
              exact fin μ2 o2 _ e
      exact L 40 0 μ1 (by omega) o1 e1 hl (fun _ => by have := h.2.1.1.1; omega) hZ
  · exact EX11_fired (fun X C R => cl_kiln_n h hy ⟨fun _ => EX12_fired (fun X C R => mo_kiln_n h hy ⟨z0, fun _ => ⟨rfl, hR⟩⟩), z0⟩)
/-! odds -/
def sk (B B' : Nat → Nat → Int) : Prop := B 0 0 = B' 0 0 ∧ B 0 1 = B' 0 1 ∧ (∀ i, i < 8 → B 3 i = B' 3 i) ∧ ∀ k, k < 3 → B 8 k = B' 8 k
theorem sk.burn {A : m_T} {B B' : Nat → Nat → Int} (h : sk B B') {k : Nat} (hk : k < 3) : p_burn A B k = p_burn A B' k := by
  unfold p_burn
  have : b_cnt B k = b_cnt B' k := m_cnt_congr 8 0 (fun j _ hj => by rw [h.2.2.1 j (by omega)])
  rw [h.1, h.2.2.2 k hk, this]
theorem sk.goes {A : m_T} {B B' : Nat → Nat → Int} (h : sk B B') {k : Nat} (hk : k < 3) : p_goes A B k = p_goes A B' k := by
  unfold p_goes
  have : b_cnt B k = b_cnt B' k := m_cnt_congr 8 0 (fun j _ hj => by rw [h.2.2.1 j (by omega)])
  rw [h.burn hk, h.2.1, h.2.2.2 k hk, this]
theorem sk.fire {A : m_T} {B B' : Nat → Nat → Int} (hB : BI A B) (hB' : BI A B') (h : sk B B') {k : Nat} (hk : k < 3) (x y : Int) : sk (p_fire A B k x) (p_fire A B' k y) := by
  refine ⟨by rw [p_fire_00, p_fire_00]; exact h.1, by rw [p_fire_01, p_fire_01, h.2.1, h.burn hk], fun i hi => ?_, fun j hj => by rw [p_fire_8, p_fire_8, h.2.2.2 j hj]⟩
  have e := h.2.2.1 i hi
  by_cases q : B 3 i = (k : Int)
  · rw [(p_fire_in hB hi q).1, (p_fire_in hB' hi (e.symm.trans q)).1]
  · rw [p_fire_out (fun z => q z.2) (by omega), p_fire_out (fun z => q (e.trans z.2)) (by omega), e]
theorem kl_out {A : m_T} {gust : Int} {c : Nat} : ∀ (r k : Nat) (B : Nat → Nat → Int) (n : Int), (∀ j : Nat, k ≤ j → B 3 c ≠ (j : Int)) → (p_kl A gust r k B n).1 5 c = B 5 c ∧ (p_kl A gust r k B n).1 6 c = B 6 c := by
  intro r
  induction r with
  | zero => intro k B n h; exact ⟨rfl, rfl⟩
  | succ r ih =>
    intro k B n h
    unfold p_kl
    split
    · have h3 : ¬ (c < 8 ∧ B 3 c = (k : Int)) := fun z => h k (Nat.le_refl k) z.2
      have := ih (k + 1) (p_fire A B k (p_heat B k gust)) (n + 1) (fun j hj => by rw [p_fire_out h3 (by omega)]; exact h j (by omega))
      rw [p_fire_out h3 (by omega), p_fire_out h3 (by omega)] at this
      exact this
    · exact ih (k + 1) B n (fun j hj => h j (by omega))
theorem kl_odds {A : m_T} (hA : TA A) {gust lit place week : Int} {c kn : Nat} (hc : c < 8) : ∀ (r k : Nat) (B B' : Nat → Nat → Int) (n n' : Int), k + r = tw_nk A → k ≤ kn → kn < tw_nk A → BI A B → BI A B' → sk B B' → B 3 c = (kn : Int) → B 4 c = place → B 0 0 = week → B 8 kn = lit → (p_kl A gust r k B n).1 6 c = if (p_kl A 0 r k B' n').1 5 c = -1 then 0 else if p_crk A c (if lit + gust < 20 then lit + gust else 20) place week then 1 else 0 := by
  intro r
  induction r with
  | zero => intro k B B' n n' hk h1 h2; omega
  | succ r ih =>
    intro k B B' n n' hk h1 h2 hB hB' hs e3 e4 e0 e8
    have hk3 : k < 3 := by have := hA.2.1; omega
    have e3' : B' 3 c = (kn : Int) := (hs.2.2.1 c hc).symm.trans e3
    have raw := (hB.2.2.2.2.1 c hc).raw e3
    have raw' := (hB'.2.2.2.2.1 c hc).raw e3'
    unfold p_kl
    rw [← hs.goes hk3]
    by_cases hkn : k = kn
    · subst hkn
      split
      · have k3 := p_fire_in (heat := p_heat B k gust) hB hc e3
        have k3' := p_fire_in (heat := p_heat B' k 0) hB' hc e3'
        rw [(kl_out r (k + 1) _ _ (fun j _ => by rw [k3.1]; omega)).2, (kl_out r (k + 1) _ _ (fun j _ => by rw [k3'.1]; omega)).1, k3.2.2.2.1, k3'.2.2.1]
        have := p_ring_in A c (p_heat B' k 0) (B' 4 c) (B' 0 0)
        rw [if_neg (by unfold sRing; omega)]
        unfold sCrk p_heat
        rw [e4, e0, e8]
      · rw [(kl_out r (k + 1) _ _ (fun j hj => by rw [e3]; omega)).2, (kl_out r (k + 1) _ _ (fun j hj => by rw [e3']; omega)).1, raw.2.1, if_pos raw'.1]
    · split
      · next hg =>
        have o3 : ¬ (c < 8 ∧ B 3 c = (k : Int)) := fun z => by have := z.2; omega
        have hg' : p_goes A B' k = true := by rw [← hs.goes hk3]; exact hg
        refine ih (k + 1) _ _ _ _ (by omega) (by omega) h2 (hB.fire (by omega) hk3 hg) (hB'.fire (by omega) hk3 hg') (hs.fire hB hB' hk3 _ _) ?_ ?_ ?_ ?_
        · rw [p_fire_out o3 (by omega)]; exact e3
        · rw [p_fire_out o3 (by omega)]; exact e4
        · rw [p_fire_00]; exact e0
        · rw [p_fire_8, if_neg (by omega)]; exact e8
      · exact ih (k + 1) B B' n n' (by omega) (by omega) h2 hB hB' hs e3 e4 e0 e8
theorem week_odds {A : m_T} (hA : TA A) {gust : Int} {c kn : Nat} (hc : c < 8) {B : Nat → Nat → Int} (hB : BI A B) (e3 : B 3 c = (kn : Int)) : (p_week A B gust).1 6 c = if (p_week A B 0).1 5 c = -1 then 0 else if p_crk A c (if B 8 kn + gust < 20 then B 8 kn + gust else 20) (B 4 c) (B 0 0) then 1 else 0 := by
  have hk := ((hB.2.2.2.2.1 c hc).raw e3).2.2.2.2.1
  have hL := BI.load hA hB
  have := kl_odds hA (gust := gust) (lit := B 8 kn) (place := B 4 c) (week := B 0 0) hc (tw_nk A) 0 (p_load A B) (p_load A B) 0 0 (by omega) (by omega) hk hL hL ⟨rfl, rfl, fun _ _ => rfl, fun _ _ => rfl⟩ (by unfold p_load; rw [bu_ne _ _ (by omega)]; exact e3) (by unfold p_load; rw [bu_ne _ _ (by omega)]) (by unfold p_load; rw [bu_ne _ _ (by omega)]) (by unfold p_load; rw [bu_ne _ _ (by omega)])
  have e : ∀ g x y, x ≠ 0 → (p_week A B g).1 x y = (p_kl A g (tw_nk A) 0 (p_load A B) 0).1 x y := fun g x y hx => by
    unfold p_week
    dsimp only
    rw [bu_ne _ _ (by omega)]
  rw [e gust 6 c (by decide), e 0 5 c (by decide)]
  exact this
theorem CT.wind {μ : m_M} {t : Nat} {A : m_T} (h : CT μ t A) : μ t 0 9 = tw_wind A := by rw [← h.2.2.1]; rfl
theorem MT.wind {μ : m_M} {b : Nat} {A : m_T} (h : MT μ b A) : μ 34 22 b = tw_wind A := by rw [← h.2.2.1]; rfl
def oS (w : Int) (f : Nat → Int) : Nat → Int
  | 0 => 0
  | g + 1 => oS w f g + (if g = 0 then 3 * (100 - w) else w) * f g
theorem oS_in {w : Int} (hw : 0 ≤ w ∧ w ≤ 100) {f : Nat → Int} (hf : ∀ g, f g = 0 ∨ f g = 1) : ∀ g, 0 ≤ oS w f g ∧ oS w f g ≤ 300 * (g : Int) := by
  intro g
  induction g with
  | zero => unfold oS; omega
  | succ g ih =>
    unfold oS
    rcases hf g with e | e <;> rw [e] <;> split <;> omega
theorem oS_congr {w : Int} {f f' : Nat → Int} : ∀ g, (∀ i, i < g → f i = f' i) → oS w f g = oS w f' g := by
  intro g
  induction g with
  | zero => intro _; rfl
  | succ g ih => intro h; unfold oS; rw [ih (fun i hi => h i (by omega)), h g (by omega)]
theorem oS_0 {w : Int} {f : Nat → Int} (h : ∀ g, f g = 0) : ∀ g, oS w f g = 0 := by
  intro g
  induction g with
  | zero => rfl
  | succ g ih => unfold oS; rw [ih, h g]; omega
theorem cl_rows {d : Nat} {μ : m_M} {A : m_T} {t s b : Nat} (h : RA μ A t s b) {c : Nat} (hc : c < tw_nc A) {lit : Int} (hl : 0 ≤ lit ∧ lit ≤ 20) (hp : 0 ≤ μ 10 4 c ∧ μ 10 4 c ≤ 5) {K : Int → m_M → Prop} (k : ∀ μ1, off5 μ μ1 → K (oS (tw_wind A) (fun g => if p_crk A c (if lit + (g : Int) < 20 then lit + (g : Int) else 20) (μ 10 4 c) (μ 10 0 0) then 1 else 0) 4) μ1) : c_i G (d + 8) YX11_crackingRows [vR 1 0, vI (c : Int), vI lit] μ K := by
  have hA := h.1.1.2.2.2.1
  have hwd := hA.2.2.2.2.2.2.1
  have h8 := hA.1
  obtain ⟨f, hf⟩ : ∃ f : Nat → Int, ∀ g : Nat, f g = if p_crk A c (if lit + (g : Int) < 20 then lit + (g : Int) else 20) (μ 10 4 c) (μ 10 0 0) then 1 else 0 := ⟨_, fun _ => rfl⟩
  have hff : (fun g : Nat => if p_crk A c (if lit + (g : Int) < 20 then lit + (g : Int) else 20) (μ 10 4 c) (μ 10 0 0) then (1 : Int) else 0) = f := by funext g; exact (hf g).symm
  rw [hff] at k
  have h01 : ∀ g, f g = 0 ∨ f g = 1 := fun g => by rw [hf]; split <;> omega
  refine EX11_crackingRows (fun X C R => ⟨⟨by omega, by omega⟩, ?_⟩)
  rw [Int.toNat_natCast]
  have L : ∀ (r g : Nat) (μ1 : m_M) (l : Int), g + 1 + r = 4 → off5 μ μ1 → mW G X YX11_crackingRows μ1 35 [some (vR 1 0), some (vI (c : Int)), some (vI lit), some (vI l), some (vI (oS (tw_wind A) f (g + 1))), some (vI ((g + 1 : Nat) : Int)), none] [] := by
    intro r
    induction r with
    | zero =>
      intro g μ1 l hg o1
      refine VX11_crackingRows_35 C R ⟨fun _ => ?_, fun q => absurd (by omega) q⟩
      rw [show g + 1 = 4 by omega]
      exact k μ1 o1
    | succ r ih =>
      intro g μ1 l hg o1
      have h1 := h.fS o1.S
      have f1 := fr10 o1.S
      refine VX11_crackingRows_35 C R ⟨fun q => absurd q (by omega), fun _ x1 e1 => ⟨t, h1.1.2.2.1.1, h1.1.1.1, ⟨by omega, by omega⟩, ?_⟩⟩
      rw [w32_le (by omega) (by omega)] at e1
      subst e1
      rw [Int.toNat_natCast, f1]
      refine cl_cracks h1 ⟨⟨by omega, by omega⟩, ⟨by split <;> omega, by split <;> omega⟩, hp.1, hp.2⟩ (fun μ3 o3 x5 e5 x6 e6 => ?_)
      rw [w32_s (by omega)] at e6
      subst e6
      rw [f1, h1.1.1.wind, ← hf (g + 1)] at e5
      have b1 := oS_in hwd h01 (g + 1)
      have e5' : x5 = oS (tw_wind A) f (g + 1 + 1) := by
        show x5 = oS (tw_wind A) f (g + 1) + (if g + 1 = 0 then 3 * (100 - tw_wind A) else tw_wind A) * f (g + 1)
        rw [if_neg (by omega), e5]
        rcases h01 (g + 1) with q | q <;> rw [q]
        · rw [w32_le (z := tw_wind A * 0) (by omega) (by omega), w32_le (by omega) (by omega)]
        · rw [w32_le (z := tw_wind A * 1) (by omega) (by omega), w32_le (by omega) (by omega)]
      rw [e5']
      exact ih (g + 1) μ3 l (by omega) (o1.tr o3)
  refine cl_cracks h ⟨⟨by omega, by omega⟩, hl, hp⟩ (fun μ1 o1 => ?_)
  have h1 := h.fS o1.S
  refine ⟨t, h1.1.2.2.1.1, h1.1.1.1, fun x5 e5 => ?_⟩
  rw [h1.1.1.wind] at e5
  have e0 : (if p_crk A c lit (μ 10 4 c) (μ 10 0 0) then (1 : Int) else 0) = f 0 := by
    rw [hf]
    have : (if lit + ((0 : Nat) : Int) < 20 then lit + ((0 : Nat) : Int) else 20) = lit := by split <;> omega
    rw [this]
  rw [e0] at e5 ⊢
  have e5' : x5 = oS (tw_wind A) f (0 + 1) := by
    show x5 = 0 + (if 0 = 0 then 3 * (100 - tw_wind A) else tw_wind A) * f 0
    rw [if_pos rfl, e5, w32_le (z := 100 - tw_wind A) (by omega) (by omega), w32_le (z := (100 - tw_wind A) * 3) (by omega) (by omega)]
    rcases h01 0 with q | q <;> rw [q]
    · rw [w32_le (by omega) (by omega)]; omega
    · rw [w32_le (by omega) (by omega)]; omega
  rw [e5']
  exact L 3 0 μ1 _ (by omega) o1
theorem mo_odds {d : Nat} {μ : m_M} {A : m_T} {t s b : Nat} (h : RA μ A t s b) {c kn : Nat} (hc : c < tw_nc A) (e3 : μ 10 3 c = (kn : Int)) (hlit : μ 10 8 kn ≠ -1) (hw : μ 10 0 0 < 999) {Z : Int} (hZ : oS (tw_wind A) (fun g => (p_week A (μ 10) (g : Int)).1 6 c) 4 = Z) : c_i G (d + 100) YX12_odds [vR 34 0, vI (c : Int)] μ (fun r2 μ2 => r2 = Z ∧ RR μ2) := by
  have hM := h.1.2.1
  have hb := hM.2.1
  have hA := h.1.1.2.2.2.1
  have hwd := hA.2.2.2.2.2.2.1
  have h8 := hA.1
  have hc8 : c < 8 := by omega
  have hk := ((h.2.1.1.2.2.2.2.1 c hc8).raw e3).2.2.2.2.1
  have hk3 : kn < 3 := by have := hA.2.1; omega
  have q3 := (h.2.1.c hc8).1
  have q8 := h.2.1.k hk3
  obtain ⟨f, hf⟩ : ∃ f : Nat → Int, ∀ g : Nat, f g = (p_week A (μ 10) (g : Int)).1 6 c := ⟨_, fun _ => rfl⟩
  have hff : (fun g : Nat => (p_week A (μ 10) (g : Int)).1 6 c) = f := by funext g; exact (hf g).symm
  rw [hff] at hZ
  have h01 : ∀ g, f g = 0 ∨ f g = 1 := fun g => by
    rw [hf, week_odds hA hc8 h.2.1.1 e3]
    generalize (if μ 10 8 kn + (g : Int) < 20 then μ 10 8 kn + (g : Int) else 20) = hh
    split
    · exact Or.inl rfl
    · split
      · exact Or.inr rfl
      · exact Or.inl rfl
  refine EX12_odds (fun X C R => mo_child_y h ⟨by omega, by omega⟩ ⟨z1, fun _ => ⟨⟨by omega, by omega⟩, ?_⟩⟩)
  rw [Int.toNat_natCast, q3, e3, Int.toNat_natCast, q8]
  refine ⟨fun q => absurd q (by omega), fun _ => ⟨⟨by omega, by omega⟩, ⟨by omega, by omega⟩, fun q => absurd q hlit, fun _ => mo_ah_y h ⟨by omega, by omega⟩ (by omega) (by omega) ⟨fun _ => ?_, z1⟩⟩⟩
  have L : ∀ (r g : Nat) (μ1 : m_M), g + r = 4 → ofL 1 μ μ1 → mW G X YX12_odds μ1 49 [some (vR 34 0), some (vI (c : Int)), some (vI (oS (tw_wind A) f g)), some (vI (g : Int)), none] [] := by
    intro r
    induction r with
    | zero =>
      intro g μ1 hg o1
      refine VX12_odds_49 C R ⟨fun _ => ⟨?_, A, t, s, b, h.fS o1.S⟩, fun q => absurd (by omega) q⟩
      rw [show g = 4 by omega]; exact hZ
    | succ r ih =>
      intro g μ1 hg o1
      refine VX12_odds_49 C R ⟨fun q => absurd q (by omega), fun _ => mo_copy h o1 (fun μ2 o2 i2 e2 => ?_)⟩
      have h2 := h.fS o2.S
      have hB2 := e2.sy.BI h.2.1.1
      have w2 : μ2 34 43 1 = μ 10 0 0 := e2.1.1
      refine cm_ticksK (v := 1) h2.1.2.1 (by decide) hB2 i2 (gust := (g : Int)) (by omega) (by omega) (fun μ3 o3 i3 e3' _ _ _ => ?_)
      have o13 := o2.tr o3
      have h3 := h.fS o13.S
      have e6 : mK A (μ3 34) 1 6 c = f g := by rw [hf]; exact ((e3'.tr (p_week_beq hA hB2 e2).1).2.1 c hc8).2.2.2.1
      rw [mK6] at e6
      have b1 := oS_in hwd h01 g
      have ht := tb_i (x := μ3 34 49 1) (k := c) (bt_s i3) (by omega)
      have eg : w32 ((g : Int) + 1) = ((g + 1 : Nat) : Int) := w32_s (by omega)
      rw [h3.1.2.1.1, Int.toNat_natCast, h3.1.2.1.wind, eg]
      have nx : ∀ x : Int, x = oS (tw_wind A) f (g + 1) → mW G X YX12_odds μ3 49 [some (vR 34 0), some (vI (c : Int)), some (vI x), some (vI ((g + 1 : Nat) : Int)), none] [] := fun x hx => by
        rw [hx]; exact ih (g + 1) μ3 (by omega) o13
      have hS : oS (tw_wind A) f (g + 1) = oS (tw_wind A) f g + (if g = 0 then 3 * (100 - tw_wind A) else tw_wind A) * f g := rfl
      refine ⟨fun hg0 => ⟨⟨by omega, by omega⟩, fun x3 ex3 => EX12_has2 ⟨fun q => ⟨fun _ x6 ex6 x7 ex7 => ?_, z0⟩, fun q => ⟨z1, fun _ x6 ex6 x7 ex7 => ?_⟩⟩⟩, fun hg0 => ⟨⟨by omega, by omega⟩, fun x3 ex3 => EX12_has2 ⟨fun q => ⟨fun _ x6 ex6 x7 ex7 => ?_, z0⟩, fun q => ⟨z1, fun _ x6 ex6 x7 ex7 => ?_⟩⟩⟩⟩
      · subst ex7
        rw [ht] at q
        rw [if_neg q] at e6
        refine nx x6 ?_
        rw [hS, ← e6, ex6, w32_le (by omega) (by omega)]; omega
      · subst ex7
        rw [ht] at q
        rw [if_pos q] at e6
        refine nx x6 ?_
        rw [hS, ← e6, ex6, ex3, if_neg (by omega), w32_le (by omega) (by omega)]; omega
      · subst ex7
        rw [ht] at q
        rw [if_neg q] at e6
        refine nx x6 ?_
        rw [hS, ← e6, ex6, w32_le (by omega) (by omega)]; omega
      · subst ex7
        rw [ht] at q
        rw [if_pos q] at e6
        refine nx x6 ?_
        rw [w32_le (z := 100 - tw_wind A) (by omega) (by omega), w32_le (by omega) (by omega)] at ex3
        rw [hS, ← e6, ex6, ex3, if_pos (by omega), w32_le (by omega) (by omega)]; omega
  exact L 4 0 μ (by omega) (ofL.rf 1 μ)
theorem mo_odds_n {d : Nat} {μ : m_M} {A : m_T} {t s b : Nat} (h : RA μ A t s b) {c : Nat} (hc : c < tw_nc A) (hn : ∀ kn : Nat, μ 10 3 c = (kn : Int) → μ 10 8 kn ≠ -1 → ¬ μ 10 0 0 < 999) : c_i G (d + 100) YX12_odds [vR 34 0, vI (c : Int)] μ (fun r2 μ2 => r2 = -1 ∧ RR μ2) := by
  have hA := h.1.1.2.2.2.1
  have h8 := hA.1
  have hc8 : c < 8 := by omega
  have q3 := (h.2.1.c hc8).1
  have hR : RR μ := ⟨A, t, s, b, h⟩
  refine EX12_odds (fun X C R => mo_child_y h ⟨by omega, by omega⟩ ⟨z1, fun _ => ⟨⟨by omega, by omega⟩, ?_⟩⟩)
  rw [Int.toNat_natCast, q3]
  refine ⟨fun _ => ⟨rfl, hR⟩, fun q => ?_⟩
  obtain ⟨kn, e3, hk⟩ : ∃ kn : Nat, μ 10 3 c = (kn : Int) ∧ kn < tw_nk A := by
    rcases h.2.1.1.2.2.2.2.1 c hc8 with ⟨-, -, -, ⟨k3, -⟩ | ⟨-, k, hk, k3, -⟩⟩ | ⟨-, -, -, -, k3, -⟩
    · exact absurd k3 q
    · exact ⟨k, k3, hk⟩
    · exact absurd k3 q
  have hk3 : kn < 3 := by have := hA.2.1; omega
  rw [e3, Int.toNat_natCast, h.2.1.k hk3]
  refine ⟨⟨by omega, by omega⟩, ⟨by omega, by omega⟩, fun _ => ⟨rfl, hR⟩, fun q2 => mo_ah_n h (fun z => by omega) (by have := hn kn e3 q2; omega) ⟨z0, fun _ => ⟨rfl, hR⟩⟩⟩
theorem S_odds : SIM G YX11_odds YX12_odds [vI a1] := by
  intro d μ ⟨A, t, s, b, h⟩
  have hR : RR μ := ⟨A, t, s, b, h⟩
  have hA := h.1.1.2.2.2.1
  have h8 := hA.1
  by_cases hy : 0 ≤ a1 ∧ a1 < (tw_nc A : Int)
  · obtain ⟨c, rfl⟩ : ∃ c : Nat, a1 = (c : Int) := ⟨a1.toNat, by omega⟩
    have hc : c < tw_nc A := by omega
    have hc8 : c < 8 := by omega
    refine EX11_odds (cl_child_y h hy ⟨z1, fun _ => ⟨fun hw => ⟨⟨by omega, by omega⟩, fun x3 ex3 => ?_⟩, fun hw => mo_odds_n h hc (fun kn _ _ => hw)⟩⟩)
    rw [Int.toNat_natCast] at ex3
    by_cases hk : 0 ≤ x3 ∧ x3 < (tw_nk A : Int)
    · obtain ⟨kn, rfl⟩ : ∃ kn : Nat, x3 = (kn : Int) := ⟨x3.toNat, by omega⟩
      have hkn : kn < tw_nk A := by omega
      have hk3 : kn < 3 := by have := hA.2.1; omega
      have raw := (h.2.1.1.2.2.2.2.1 c hc8).raw ex3.symm
      have hro := hA.2.2.2.1 kn hkn
      have hlit := (h.2.1.1.2.2.2.1 kn hk3).1
      refine cl_kiln_y h hk ⟨z1, fun _ => ⟨⟨by omega, by omega⟩, fun q => ?_, fun q => ?_⟩⟩
      · rw [Int.toNat_natCast] at q
        refine cl_look (n := 1) h (by decide) (by omega) (fun μ1 o1 e1 => c_isFired (by decide) hc8 ?_)
        have h1 := h.fS o1.S
        have f1 := fr10 o1.S
        have e5 : μ1 11 5 c = (p_week A (μ 10) 0).1 5 c := (e1.2.1 c hc8).2.2.1
        rw [e5]
        by_cases qf : (p_week A (μ 10) 0).1 5 c = -1
        · rw [if_pos qf]
          refine ⟨fun _ => mo_odds h1 hc (by rw [f1]; exact ex3.symm) (by rw [f1]; exact q) (by rw [f1]; exact hw) ?_, z0⟩
          rw [f1]
          exact oS_0 (fun g => by rw [week_odds hA hc8 h.2.1.1 ex3.symm, if_pos qf]) 4
        · rw [if_neg qf, Int.toNat_natCast, f1]
          refine ⟨z1, fun _ => ⟨⟨by omega, by omega⟩, cl_rows h1 hc (by omega) (by rw [f1]; omega) (fun μ2 o2 => ?_)⟩⟩
          have f2 : μ2 10 = μ 10 := by rw [fr10 o2.S, f1]
          refine mo_odds (h1.fS o2.S) hc (by rw [f2]; exact ex3.symm) (by rw [f2]; exact q) (by rw [f2]; exact hw) ?_
          rw [f2, f1]
          exact oS_congr 4 (fun g _ => by rw [week_odds hA hc8 h.2.1.1 ex3.symm, if_neg qf])
      · rw [Int.toNat_natCast] at q
        exact mo_odds_n h hc (fun k' e' q' => by
          have : k' = kn := by omega
          subst this
          exact absurd q q')
    · refine cl_kiln_n h hk ⟨fun _ => mo_odds_n h hc (fun k' e' _ => ?_), z0⟩
      have := ((h.2.1.1.2.2.2.2.1 c hc8).raw e').2.2.2.2.1
      omega
  · exact EX11_odds (cl_child_n h hy ⟨fun _ => EX12_odds (fun X C R => mo_child_n h hy ⟨fun _ => ⟨rfl, hR⟩, z0⟩), z0⟩)
end S6
