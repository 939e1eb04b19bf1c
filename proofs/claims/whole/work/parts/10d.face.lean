theorem i_or_0 {x : Int} (h : bt x) : i_or x 0 = x := by
  obtain ⟨a, rfl⟩ : ∃ a : Nat, x = (a : Int) := ⟨x.toNat, by have := h.1; omega⟩
  rw [show (0 : Int) = ((0 : Nat) : Int) from rfl, i_or_nat (by have := h.2; omega) (by omega), Nat.or_zero]
noncomputable def m_bits (f : Nat → Bool) : Nat → Nat → Int → Int
  | 0, _, a => a
  | r + 1, i, a => m_bits f r (i + 1) (if f i then i_or a (i_shl 1 (i : Int)) else a)
theorem m_bits_spec (f : Nat → Bool) : ∀ r i (a : Int), i + r ≤ 31 → bt a → bt (m_bits f r i a) ∧ ∀ c, tb (m_bits f r i a) c = (tb a c || (decide (i ≤ c ∧ c < i + r) && f c)) := by
  intro r
  induction r with
  | zero =>
    intro i a _ ha
    refine ⟨ha, fun c => ?_⟩
    have : decide (i ≤ c ∧ c < i + 0) = false := by simp
    rw [this]
    simp [m_bits]
  | succ r ih =>
    intro i a hi ha
    unfold m_bits
    have hb : bt (if f i then i_or a (i_shl 1 (i : Int)) else a) := by
      split
      · exact bt_or ha (bt_shl (by omega))
      · exact ha
    obtain ⟨h1, h2⟩ := ih (i + 1) _ (by omega) hb
    refine ⟨h1, fun c => ?_⟩
    rw [h2 c]
    by_cases e : c = i
    · subst e
      have k1 : decide (c + 1 ≤ c ∧ c < c + 1 + r) = false := by simp; omega
      have k2 : decide (c ≤ c ∧ c < c + (r + 1)) = true := by simp
      rw [k1, k2]
      split
      · next q => rw [tb_or ha (bt_shl (by omega)), tb_shl (by omega), q]; simp
      · next q => have : f c = false := by revert q; cases f c <;> simp
                  rw [this]; simp
    · have k1 : decide (i + 1 ≤ c ∧ c < i + 1 + r) = decide (i ≤ c ∧ c < i + (r + 1)) := by
        apply decide_eq_decide.mpr; omega
      rw [k1]
      split
      · rw [tb_or ha (bt_shl (by omega)), tb_shl (by omega)]
        have : decide (i = c) = false := by simp; omega
        rw [this, Bool.or_false]
      · rfl
theorem m_cnt_compl (p : Nat → Bool) : ∀ r i, m_cnt p i r + m_cnt (fun c => !p c) i r = r := by
  intro r
  induction r with
  | zero => intro i; rfl
  | succ r ih =>
    intro i
    have := ih (i + 1)
    unfold m_cnt
    cases h : p i <;> simp <;> omega
section S3
variable {G : m_G} {a1 a2 a3 a4 : Int}
set_option maxRecDepth 20000 in
theorem S_heats : SIM G YX11_heats YX12_heats [vI a1, vI a2, vI a3, vI a4] := by
  intro d μ ⟨A, t, s, b, h⟩
  have hR : RR μ := ⟨A, t, s, b, h⟩
  by_cases hy : rgOf A a1 0 a2
  · have hy' := hy
    unfold rgOf at hy'
    obtain ⟨c, rfl⟩ : ∃ c : Nat, a1 = (c : Int) := ⟨a1.toNat, by omega⟩
    obtain ⟨f, hf⟩ : ∃ f : Nat → Bool, ∀ i, f i = (decide (a3 ≤ p_ring A c i a2 (μ 10 0 0) ∧ p_ring A c i a2 (μ 10 0 0) ≤ a4) && !p_crk A c i a2 (μ 10 0 0)) := ⟨fun i => (decide (a3 ≤ p_ring A c i a2 (μ 10 0 0) ∧ p_ring A c i a2 (μ 10 0 0) ≤ a4) && !p_crk A c i a2 (μ 10 0 0)), fun _ => rfl⟩
    have MO : ∀ (r i : Nat) (a : Int) (X : m_X) (Zr : Int) (μ0 : m_M), mC G X YX12_heats (d + 100) → r_i G X (fun r2 μ2 => r2 = Zr ∧ RR μ2) → ∀ μ1, i + r = 21 → bt a → RA μ1 A t s b → μ1 10 = μ 10 → m_bits f r i a = Zr → mW G X YX12_heats μ1 18 [some (vR 34 0), some (vI (c : Int)), some (vI a2), some (vI a3), some (vI a4), some (vI a), some (vI (i : Int))] [] := by
      intro r
      induction r with
      | zero =>
        intro i a X Zr μ0 C R μ1 hi ha h1 h10 e
        exact VX12_heats_18 C R ⟨fun _ => ⟨e, A, t, s, b, h1⟩, fun q => absurd (by omega) q⟩
      | succ r ih =>
        intro i a X Zr μ0 C R μ1 hi ha h1 h10 e
        unfold m_bits at e
        have w1 := h1.2.1.w.1
        refine VX12_heats_18 C R ⟨fun q => absurd q (by omega), fun _ => cm_ring (v := 0) h1.1.2.1 (by decide) (by omega) (by unfold sm; omega) (by unfold sm; omega) (by rw [w1]; exact h1.2.1.sw) (fun μ2 o2 => ?_)⟩
        have h2 := h1.fS o2.S
        have h102 : μ2 10 = μ 10 := by rw [← h10]; funext b c; exact o2 10 b c (by omega)
        have w2 := h2.2.1.w.1
        rw [w1, h10]
        by_cases q : a3 ≤ p_ring A c i a2 (μ 10 0 0) ∧ p_ring A c i a2 (μ 10 0 0) ≤ a4
        · refine mo_is_y q ⟨z1, fun _ => cm_crk (v := 0) h2.1.2.1 (by decide) (by omega) (by unfold sm; omega) (by unfold sm; omega) (by rw [w2]; exact h2.2.1.sw) (fun μ3 o3 => ?_)⟩
          have h3 := h2.fS o3.S
          have h103 : μ3 10 = μ 10 := by rw [← h102]; funext b c; exact o3 10 b c (by omega)
          rw [w2, h102]
          refine ⟨fun q2 x5 e5 x6 e6 => ?_, fun q2 x5 e5 x6 e6 => ?_⟩
          · rw [w32_s (by omega)] at e6
            subst e6
            rw [i_or_0 ha] at e5
            subst e5
            have hn : f i = false := by
              rw [hf]
              by_cases q3 : p_crk A c i a2 (μ 10 0 0) = true
              · rw [q3]; simp
              · rw [if_neg q3] at q2; exact absurd rfl q2
            rw [hn] at e
            exact ih (i + 1) x5 X Zr μ0 C R μ3 (by omega) ha h3 h103 e
          · rw [w32_s (by omega)] at e6
            subst e6
            subst e5
            have hn : f i = true := by
              rw [hf]
              by_cases q3 : p_crk A c i a2 (μ 10 0 0) = true
              · rw [if_pos q3] at q2; exact absurd q2 (by decide)
              · simp [q, q3]
            rw [hn] at e
            exact ih (i + 1) _ X Zr μ0 C R μ3 (by omega) (bt_or ha (bt_shl (by omega))) h3 h103 e
        · refine mo_is_n q ⟨fun _ x5 e5 x6 e6 => ?_, z0⟩
          rw [w32_s (by omega)] at e6
          subst e6
          rw [i_or_0 ha] at e5
          subst e5
          have hn : f i = false := by
            rw [hf]
            have : decide (a3 ≤ p_ring A c i a2 (μ 10 0 0) ∧ p_ring A c i a2 (μ 10 0 0) ≤ a4) = false := by simpa using q
            rw [this]; rfl
          rw [hn] at e
          exact ih (i + 1) x5 X Zr μ0 C R μ2 (by omega) ha h2 h102 e
    have CL : ∀ (r i : Nat) (a : Int) (X : m_X), mC G X YX11_heats (d + 100) → r_i G X (fun r μ1 => c_i G (d + 100) YX12_heats [vR 34 0, vI (c : Int), vI a2, vI a3, vI a4] μ1 (fun r2 μ2 => r2 = r ∧ RR μ2)) → ∀ μ1, i + r = 21 → off5 μ μ1 → m_bits f r i a = m_bits f 21 0 0 → mW G X YX11_heats μ1 23 [some (vR 1 0), some (vI (c : Int)), some (vI a2), some (vI a3), some (vI a4), some (vI a), some (vI (i : Int)), none, none] [] := by
      intro r
      induction r with
      | zero =>
        intro i a X C R μ1 hi o1 e
        have h1 := h.fS o1.S
        have h10 : μ1 10 = μ 10 := by funext b c; exact o1 10 b c (by decide)
        refine VX11_heats_23 C R ⟨fun _ => ?_, fun q => absurd (by omega) q⟩
        refine EX12_heats (fun X' C' R' => mo_rg_y h1 hy ⟨fun _ => ?_, z1⟩)
        exact MO 21 0 0 X' a μ C' R' μ1 (by omega) ⟨by omega, by omega⟩ h1 h10 e.symm
      | succ r ih =>
        intro i a X C R μ1 hi o1 e
        have h1 := h.fS o1.S
        have h10 : μ1 10 = μ 10 := by funext b c; exact o1 10 b c (by decide)
        obtain ⟨Z, hZ⟩ : ∃ Z, Z = m_bits f 21 0 0 := ⟨_, rfl⟩
        rw [← hZ] at e
        unfold m_bits at e
        refine VX11_heats_23 C R ⟨fun q => absurd q (by omega), fun _ => c_temperOf h1.1.1 (by omega) (by unfold sm; omega) (by omega) (by unfold sm; omega) h1.2.1.sw (fun μ2 o2 => ?_)⟩
        rw [h10]
        have o12 := o1.tr o2
        have h2 := h.fS o12.S
        have h102 : μ2 10 = μ 10 := by funext b c; exact o12 10 b c (by decide)
        have skip : f i = false → mW G X YX11_heats μ2 67 [some (vR 1 0), some (vI (c : Int)), some (vI a2), some (vI a3), some (vI a4), some (vI a), some (vI (i : Int)), some (vI (p_ring A c i a2 (μ 10 0 0))), none] [] := fun hn => by
          refine VX11_heats_67 C R (fun x2 e2 => ?_)
          rw [w32_s (by omega)] at e2
          subst e2
          rw [hn] at e
          exact ih (i + 1) a X C R μ2 (by omega) o12 (by rw [← hZ]; exact e)
        refine ⟨fun q => skip ?_, fun q => ⟨fun q2 => skip ?_, fun q2 => ?_⟩⟩
        · rw [hf]
          have : decide (a3 ≤ p_ring A c i a2 (μ 10 0 0) ∧ p_ring A c i a2 (μ 10 0 0) ≤ a4) = false := by simp; omega
          rw [this]; rfl
        · rw [hf]
          have : decide (a3 ≤ p_ring A c i a2 (μ 10 0 0) ∧ p_ring A c i a2 (μ 10 0 0) ≤ a4) = false := by simp; omega
          rw [this]; rfl
        · have hd : decide (a3 ≤ p_ring A c i a2 (μ 10 0 0) ∧ p_ring A c i a2 (μ 10 0 0) ≤ a4) = true := by simp; omega
          rw [h102]
          refine c_isCracked h2.1.1 (by omega) (by unfold sm; omega) (by unfold sm; omega) h.2.1.sw rfl (fun μ5 o5 => ?_)
          have o15 := o12.tr o5
          refine ⟨fun q3 x7 e7 => ?_, fun q3 x8 e8 x9 e9 => ?_⟩
          · rw [w32_s (by omega)] at e7
            subst e7
            have hn : f i = false := by
              rw [hf]
              by_cases q4 : p_crk A c i a2 (μ 10 0 0) = true
              · rw [q4]; simp
              · rw [if_neg q4] at q3; exact absurd rfl q3
            rw [hn] at e
            exact ih (i + 1) a X C R μ5 (by omega) o15 (by rw [← hZ]; exact e)
          · rw [w32_s (by omega)] at e9
            subst e9
            subst e8
            have hn : f i = true := by
              rw [hf, hd]
              by_cases q4 : p_crk A c i a2 (μ 10 0 0) = true
              · rw [if_pos q4] at q3; exact absurd q3 (by decide)
              · simp [q4]
            rw [hn] at e
            exact ih (i + 1) _ X C R μ5 (by omega) o15 (by rw [← hZ]; exact e)
    refine EX11_heats (fun X C R => cl_child_y h hy.1 ⟨z1, fun _ => cl_pl_y hy.2.2 ⟨fun _ => ?_, z1⟩⟩)
    exact CL 21 0 0 X C R μ (by omega) (off5.rf μ) rfl
  · have fin : c_i G (d + 100) YX12_heats [vR 34 0, vI a1, vI a2, vI a3, vI a4] μ (fun r2 μ2 => r2 = -1 ∧ RR μ2) := EX12_heats (fun X C R => mo_rg_n h hy ⟨z0, fun _ => ⟨rfl, hR⟩⟩)
    unfold rgOf at hy
    refine EX11_heats (fun X C R => ?_)
    by_cases h1 : 0 ≤ a1 ∧ a1 < (tw_nc A : Int)
    · exact cl_child_y h h1 ⟨z1, fun _ => cl_pl_n (by omega) ⟨z0, fun _ => fin⟩⟩
    · exact cl_child_n h h1 ⟨fun _ => fin, z0⟩
set_option maxRecDepth 20000 in
theorem S_has : SIM G YX11_has YX12_has [vI a1] := by
  intro d μ ⟨A, t, s, b, h⟩
  have hR : RR μ := ⟨A, t, s, b, h⟩
  have hT := h.1.1
  have hM := h.1.2.1
  have hb := hM.2.1
  have hA := hT.2.2.2.1
  have hnc := hA.1
  have hnk := hA.2.1
  have e1 := h.1.2.2.1.1
  have hw := h.2.1.w
  have hbc := h.2.1.1.2.2.2.2.1
  obtain ⟨cu, nu, fu, -, ⟨u1, -, u3, -⟩, -⟩ := h.2.2.1
  obtain ⟨ns, -, s1, s2, -⟩ := h.2.2.2.2.2.1
  have hmi := h.2.2.2.2.1.1
  have hin : ∀ c, c < 8 → tw_nc A ≤ c → μ 10 3 c = -1 ∧ μ 10 5 c = -1 := fun c hc hn => by
    rcases hbc c hc with ⟨k5, -, -, ⟨k3, -⟩ | ⟨hlt, -⟩⟩ | ⟨hlt, -⟩
    · exact ⟨k3, k5⟩
    · omega
    · omega
  have L4 : ∀ (Zr : Int) (X : m_X), mC G X YX12_has (d + 100) → r_i G X (fun r2 μ2 => r2 = Zr ∧ RR μ2) → ∀ r i a : Nat, i + r = tw_nc A → a ≤ i → ((a + m_cnt (fun c => μ 10 3 c != -1) i r : Nat) : Int) = Zr → mW G X YX12_has μ 100 [some (vR 34 0), some (vI a1), some (vI (a : Int)), some (vI (i : Int))] [] := by
    intro Zr X C R r
    induction r with
    | zero =>
      intro i a hi ha e
      refine VX12_has_100 C R ?_
      rw [hM.1, Int.toNat_natCast, hM.nc]
      exact ⟨⟨by omega, by omega⟩, fun _ => ⟨e, hR⟩, fun q => absurd (by omega) q⟩
    | succ r ih =>
      intro i a hi ha e
      unfold m_cnt at e
      refine VX12_has_100 C R ?_
      rw [hM.1, Int.toNat_natCast, hM.nc, Int.toNat_natCast, (h.2.1.c (show i < 8 by omega)).1]
      refine ⟨⟨by omega, by omega⟩, fun q => absurd q (by omega), fun _ => ⟨⟨by omega, by omega⟩, fun q x1 k1 x2 k2 => ?_, fun q x1 k1 x2 k2 => ?_⟩⟩
      · rw [w32_s (by omega)] at k1 k2; subst k1; subst k2
        rw [if_pos (by simp [q])] at e
        exact ih (i + 1) (a + 1) (by omega) (by omega) (by rw [Nat.add_assoc]; exact e)
      · rw [w32_s (by omega)] at k2; subst k2
        rw [w32_le (by omega) (by omega), Int.add_zero] at k1; subst k1
        rw [if_neg (by simp [q]), Nat.zero_add] at e
        exact ih (i + 1) a (by omega) (by omega) e
  have L5 : ∀ (Zr : Int) (X : m_X), mC G X YX12_has (d + 100) → r_i G X (fun r2 μ2 => r2 = Zr ∧ RR μ2) → ∀ r i a : Nat, i + r = tw_nc A → a ≤ i → ((a + m_cnt (fun c => μ 10 5 c != -1) i r : Nat) : Int) = Zr → mW G X YX12_has μ 141 [some (vR 34 0), some (vI a1), some (vI (a : Int)), some (vI (i : Int))] [] := by
    intro Zr X C R r
    induction r with
    | zero =>
      intro i a hi ha e
      refine VX12_has_141 C R ?_
      rw [hM.1, Int.toNat_natCast, hM.nc]
      exact ⟨⟨by omega, by omega⟩, fun _ => ⟨e, hR⟩, fun q => absurd (by omega) q⟩
    | succ r ih =>
      intro i a hi ha e
      unfold m_cnt at e
      refine VX12_has_141 C R ?_
      rw [hM.1, Int.toNat_natCast, hM.nc, Int.toNat_natCast, (h.2.1.c (show i < 8 by omega)).2.2.1]
      refine ⟨⟨by omega, by omega⟩, fun q => absurd q (by omega), fun _ => ⟨⟨by omega, by omega⟩, fun q x1 k1 x2 k2 => ?_, fun q x1 k1 x2 k2 => ?_⟩⟩
      · rw [w32_s (by omega)] at k1 k2; subst k1; subst k2
        rw [if_pos (by simp [q])] at e
        exact ih (i + 1) (a + 1) (by omega) (by omega) (by rw [Nat.add_assoc]; exact e)
      · rw [w32_s (by omega)] at k2; subst k2
        rw [w32_le (by omega) (by omega), Int.add_zero] at k1; subst k1
        rw [if_neg (by simp [q]), Nat.zero_add] at e
        exact ih (i + 1) a (by omega) (by omega) e
  have L7 : ∀ (Zr : Int) (X : m_X), mC G X YX12_has (d + 100) → r_i G X (fun r2 μ2 => r2 = Zr ∧ RR μ2) → ∀ r i a : Nat, i + r = tw_nk A → a ≤ i → ((a + m_cnt (fun c => μ 10 8 c != -1) i r : Nat) : Int) = Zr → mW G X YX12_has μ 192 [some (vR 34 0), some (vI a1), some (vI (a : Int)), some (vI (i : Int))] [] := by
    intro Zr X C R r
    induction r with
    | zero =>
      intro i a hi ha e
      refine VX12_has_192 C R ?_
      rw [hM.1, Int.toNat_natCast, hM.nk]
      exact ⟨⟨by omega, by omega⟩, fun _ => ⟨e, hR⟩, fun q => absurd (by omega) q⟩
    | succ r ih =>
      intro i a hi ha e
      unfold m_cnt at e
      refine VX12_has_192 C R ?_
      rw [hM.1, Int.toNat_natCast, hM.nk, Int.toNat_natCast, h.2.1.k (show i < 3 by omega)]
      refine ⟨⟨by omega, by omega⟩, fun q => absurd q (by omega), fun _ => ⟨⟨by omega, by omega⟩, fun q x1 k1 x2 k2 => ?_, fun q x1 k1 x2 k2 => ?_⟩⟩
      · rw [w32_s (by omega)] at k1 k2; subst k1; subst k2
        rw [if_pos (by simp [q])] at e
        exact ih (i + 1) (a + 1) (by omega) (by omega) (by rw [Nat.add_assoc]; exact e)
      · rw [w32_s (by omega)] at k2; subst k2
        rw [w32_le (by omega) (by omega), Int.add_zero] at k1; subst k1
        rw [if_neg (by simp [q]), Nat.zero_add] at e
        exact ih (i + 1) a (by omega) (by omega) e
  have n : ∀ {P : Prop} {k : Int}, a1 = k → (∀ j, j ≠ k → (a1 = j → P)) := fun e j hj z => absurd (z.symm.trans e) hj
  refine EX11_has ⟨fun e => ⟨t, e1, hT.1, ?_⟩, fun e => ⟨t, e1, hT.1, ?_⟩, fun e => ?_, fun e => ?_, fun e => c_countSet (by decide) ?_, fun e => c_countFired (by decide) ?_, fun e => c_countCracked (by decide) (fun c hc => ?_) ?_, fun e => c_countLit (by decide) ?_, fun e => ?_, fun e => ?_, fun e => ?_, fun e => ?_, fun e => ?_⟩
  · refine EX12_has (fun X C R => ⟨fun _ => ?_, n e _ (by decide), n e _ (by decide), n e _ (by decide), n e _ (by decide), n e _ (by decide), n e _ (by decide), n e _ (by decide), n e _ (by decide), n e _ (by decide), n e _ (by decide), n e _ (by decide), fun z => by omega⟩)
    rw [hM.1, Int.toNat_natCast, hM.nc, hT.nc]
    exact ⟨⟨by omega, by omega⟩, rfl, hR⟩
  · refine EX12_has (fun X C R => ⟨n e _ (by decide), fun _ => ?_, n e _ (by decide), n e _ (by decide), n e _ (by decide), n e _ (by decide), n e _ (by decide), n e _ (by decide), n e _ (by decide), n e _ (by decide), n e _ (by decide), n e _ (by decide), fun z => by omega⟩)
    rw [hM.1, Int.toNat_natCast, hM.nk, hT.nk]
    exact ⟨⟨by omega, by omega⟩, rfl, hR⟩
  · exact EX12_has (fun X C R => ⟨n e _ (by decide), n e _ (by decide), fun _ => ⟨hw.1, hR⟩, n e _ (by decide), n e _ (by decide), n e _ (by decide), n e _ (by decide), n e _ (by decide), n e _ (by decide), n e _ (by decide), n e _ (by decide), n e _ (by decide), fun z => by omega⟩)
  · exact EX12_has (fun X C R => ⟨n e _ (by decide), n e _ (by decide), n e _ (by decide), fun _ => ⟨hw.2.1, hR⟩, n e _ (by decide), n e _ (by decide), n e _ (by decide), n e _ (by decide), n e _ (by decide), n e _ (by decide), n e _ (by decide), n e _ (by decide), fun z => by omega⟩)
  · refine EX12_has (fun X C R => ⟨n e _ (by decide), n e _ (by decide), n e _ (by decide), n e _ (by decide), fun _ => L4 _ X C R (tw_nc A) 0 0 (by omega) (by omega) ?_, n e _ (by decide), n e _ (by decide), n e _ (by decide), n e _ (by decide), n e _ (by decide), n e _ (by decide), n e _ (by decide), fun z => by omega⟩)
    have k1 := m_cnt_ext (p := fun c => μ 10 3 c != -1) (m := 8) (tw_nc A) 0 (by omega) hnc (fun j q1 q2 => by simp [(hin j q2 q1).1])
    have k2 := m_cnt_compl (fun c => μ 10 3 c == -1) 8 0
    have k3 : m_cnt (fun c => !(μ 10 3 c == -1)) 0 8 = m_cnt (fun c => μ 10 3 c != -1) 0 8 := rfl
    have k4 : b_cnt (μ 10) (-1) = m_cnt (fun c => μ 10 3 c == -1) 0 8 := rfl
    rw [k4]
    rw [Nat.sub_zero] at k1
    omega
  · refine EX12_has (fun X C R => ⟨n e _ (by decide), n e _ (by decide), n e _ (by decide), n e _ (by decide), n e _ (by decide), fun _ => L5 _ X C R (tw_nc A) 0 0 (by omega) (by omega) ?_, n e _ (by decide), n e _ (by decide), n e _ (by decide), n e _ (by decide), n e _ (by decide), n e _ (by decide), fun z => by omega⟩)
    have k1 := m_cnt_ext (p := fun c => μ 10 5 c != -1) (m := 8) (tw_nc A) 0 (by omega) hnc (fun j q1 q2 => by simp [(hin j q2 q1).2])
    rw [Nat.sub_zero] at k1
    rw [Nat.zero_add, k1]
  · rcases hbc c hc with ⟨-, k6, -⟩ | ⟨-, -, k6, -⟩
    · exact Or.inl k6
    · exact k6
  · refine EX12_has (fun X C R => ⟨n e _ (by decide), n e _ (by decide), n e _ (by decide), n e _ (by decide), n e _ (by decide), n e _ (by decide), fun _ => ?_, n e _ (by decide), n e _ (by decide), n e _ (by decide), n e _ (by decide), n e _ (by decide), fun z => by omega⟩)
    have h49 := h.2.1.2.2
    rw [show μ 34 49 0 = (((μ 34 49 0).toNat : Nat) : Int) by omega]
    refine cm_bits (by omega) ⟨?_, hR⟩
    unfold popc
    rw [m_cnt_congr (p := fun c => (μ 34 49 0).toNat.testBit c) (q := fun c => μ 10 6 c == 1) 8 0 (fun j _ hj => ?_)]
    have := h.2.1.c6 (show j < 8 by omega)
    rw [← this]
    show tb (μ 34 49 0) j = _
    cases tb (μ 34 49 0) j <;> rfl
  · refine EX12_has (fun X C R => ⟨n e _ (by decide), n e _ (by decide), n e _ (by decide), n e _ (by decide), n e _ (by decide), n e _ (by decide), n e _ (by decide), fun _ => L7 _ X C R (tw_nk A) 0 0 (by omega) (by omega) ?_, n e _ (by decide), n e _ (by decide), n e _ (by decide), n e _ (by decide), fun z => by omega⟩)
    have k1 := m_cnt_ext (p := fun c => μ 10 8 c != -1) (m := 3) (tw_nk A) 0 (by omega) hnk (fun j q1 q2 => by simp [(h.2.1.1.2.2.2.1 j q2).2 q1])
    rw [Nat.sub_zero] at k1
    rw [Nat.zero_add, k1]
  · exact EX12_has (fun X C R => ⟨n e _ (by decide), n e _ (by decide), n e _ (by decide), n e _ (by decide), n e _ (by decide), n e _ (by decide), n e _ (by decide), n e _ (by decide), fun _ => ⟨hw.2.2, hR⟩, n e _ (by decide), n e _ (by decide), n e _ (by decide), fun z => by omega⟩)
  · exact EX12_has (fun X C R => ⟨n e _ (by decide), n e _ (by decide), n e _ (by decide), n e _ (by decide), n e _ (by decide), n e _ (by decide), n e _ (by decide), n e _ (by decide), n e _ (by decide), fun _ => ⟨by rw [s1, s2], hR⟩, n e _ (by decide), n e _ (by decide), fun z => by omega⟩)
  · exact EX12_has (fun X C R => ⟨n e _ (by decide), n e _ (by decide), n e _ (by decide), n e _ (by decide), n e _ (by decide), n e _ (by decide), n e _ (by decide), n e _ (by decide), n e _ (by decide), n e _ (by decide), fun _ => ⟨by rw [u1, u3], hR⟩, n e _ (by decide), fun z => by omega⟩)
  · exact EX12_has (fun X C R => ⟨n e _ (by decide), n e _ (by decide), n e _ (by decide), n e _ (by decide), n e _ (by decide), n e _ (by decide), n e _ (by decide), n e _ (by decide), n e _ (by decide), n e _ (by decide), n e _ (by decide), fun _ => ⟨by rw [hmi.1]; exact w32_le (by have := hmi.2; unfold bt at this; omega) (by have := hmi.2; unfold bt at this; omega), hR⟩, fun z => by omega⟩)
  · exact EX12_has (fun X C R => ⟨fun z => by omega, fun z => by omega, fun z => by omega, fun z => by omega, fun z => by omega, fun z => by omega, fun z => by omega, fun z => by omega, fun z => by omega, fun z => by omega, fun z => by omega, fun z => by omega, fun _ => ⟨rfl, hR⟩⟩)
end S3
