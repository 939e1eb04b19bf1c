/-! ===== on, the reference; both ===== -/
theorem BI.out {A : m_T} {B : Nat → Nat → Int} (h : BI A B) {c : Nat} (hc : c < 8) (hn : tw_nc A ≤ c) : B 3 c = -1 ∧ B 4 c = -1 ∧ B 5 c = -1 ∧ B 6 c = 0 ∧ B 7 c = 0 := by
  rcases h.2.2.2.2.1 c hc with ⟨k5, k6, k7, ⟨k3, k4⟩ | ⟨hlt, -⟩⟩ | ⟨hlt, -⟩
  · exact ⟨k3, k4, k5, k6, k7⟩
  · omega
  · omega
section ON3
variable {G : m_G} {a1 a2 a3 a4 : Int}
theorem mo_comes {d b n : Nat} {μ : m_M} {A : m_T} {T : Nat → Int} {B : Nat → Nat → Int} (hM : MT μ b A) (hl : beq (mK A (μ 34) 0) B) (hB : BI A B) (hT : ∀ i, i < n → (0 ≤ T i ∧ T i ≤ 255) ∧ μ 34 1 i = T i) (hn2 : n ≤ 1600) {K : Int → m_M → Prop} (k1 : okOn A T n → ∀ μ1, ofL 1 μ μ1 → in8 (μ1 34 49 1) → beq (mK A (μ1 34) 1) (onB A T) → K 1 μ1) (k0 : ¬ okOn A T n → ∀ μ1, ofL 1 μ μ1 → K 0 μ1) : c_i G (d + 5) YX12_comesOn [vR 34 0, vI (n : Int)] μ K := by
  have hA := hM.2.2.2.1
  have hb := hM.2.1
  have h8 := hA.1
  have hk3 := hA.2.1
  obtain ⟨nc, hnc⟩ : ∃ nc, nc = tw_nc A := ⟨_, rfl⟩
  obtain ⟨nk, hnk⟩ : ∃ nk, nk = tw_nk A := ⟨_, rfl⟩
  have e15 : μ 34 15 b = (nc : Int) := by rw [hM.nc, hnc]
  have e18 : μ 34 18 b = (nk : Int) := by rw [hM.nk, hnk]
  rw [← hnc] at h8
  rw [← hnk] at hk3
  refine EX12_comesOn (fun X C R => ?_)
  rw [hM.1, Int.toNat_natCast, e15, e18]
  refine ⟨⟨by omega, by omega⟩, fun x1 ex1 => ?_⟩
  rw [w32_le (z := 6 * (nc : Int)) (by omega) (by omega), w32_le (by omega) (by omega), show 4 + 6 * (nc : Int) = ((4 + 6 * nc : Nat) : Int) by omega] at ex1
  subst ex1
  rw [w32_nat (by omega), w32_s (by omega)]
  refine ⟨⟨by omega, by omega⟩, fun q => k0 (fun z => q (by have := z.1; rw [← hnc, ← hnk] at this; omega)) μ (ofL.rf 1 μ), fun q => ?_⟩
  have hn : n = 4 + 6 * nc + nk + 1 := by omega
  have g0 := hT 0 (by omega)
  have g1 := hT 1 (by omega)
  have g2 := hT 2 (by omega)
  have g3 := hT 3 (by omega)
  rw [g0.2, g1.2, g2.2, g3.2, or_shl8 g0.1 g1.1, or_shl8 g2.1 g3.1]
  refine ⟨fun q => k0 (fun z => by have := z.2.2.1.1; omega) μ (ofL.rf 1 μ), fun q9 => ⟨fun q99 => ?_, fun q => k0 (fun z => by have := z.2.2.1.2; omega) μ (ofL.rf 1 μ)⟩⟩
  have wn : w32 ((n : Int) - 1) = ((4 + 6 * nc + nk : Nat) : Int) := by rw [w32_le (by omega) (by omega)]; omega
  -- kilns
  have L2 : ∀ cs : Int, (∀ c, c < nc → okC A T c) → chT T (4 + 6 * nc + nk) = T (4 + 6 * nc + nk) → ∀ (r k : Nat) (μ1 : m_M), k + r = nk → ofL 1 μ μ1 → (μ1 34 43 1 = 256 * T 0 + T 1 ∧ μ1 34 44 1 = 256 * T 2 + T 3 ∧ μ1 34 51 1 = 0) → (∀ e, e < 8 → mK A (μ1 34) 1 3 e = onB A T 3 e ∧ mK A (μ1 34) 1 4 e = onB A T 4 e ∧ mK A (μ1 34) 1 5 e = onB A T 5 e ∧ (if tb (μ1 34 49 1) e then (1 : Int) else 0) = onB A T 6 e ∧ μ1 34 48 (8 + e) = onB A T 7 e) → in8 (μ1 34 49 1) → (∀ j, j < k → oN (T (4 + 6 * nc + j)) ≤ 20 ∧ μ1 34 50 (3 + j) = oN (T (4 + 6 * nc + j))) → (∀ j, nk ≤ j → j < 3 → μ1 34 50 (3 + j) = -1) → mW G X YX12_comesOn μ1 237 [some (vR 34 0), some (vI (n : Int)), some (vI ((4 + 6 * nc : Nat) : Int)), some (vI cs), some (vI (k : Int))] [] := by
    intro cs hch hck r
    induction r with
    | zero =>
      intro k μ1 hk o1 hw hbb i8 hk20 hge
      have hM1 := hM.ofL o1
      have ek : k = nk := by omega
      subst ek
      have s5 : ∀ c, c < nc → 0 ≤ T (4 + 6 * c + 5) ∧ T (4 + 6 * c + 5) ≤ 255 := fun c hc => (hT (4 + 6 * c + 5) (by omega)).1
      have o7 : ∀ c, onB A T 7 c = if c < nc then T (4 + 6 * c + 5) else 0 := fun c => by rw [hnc]; rfl
      have i48 : ∀ c, c < 8 → in8 (μ1 34 48 (8 + c)) := fun c hc => by
        rw [(hbb c hc).2.2.2.2, o7]
        unfold in8
        split
        · next y => have := s5 c y; omega
        · omega
      have sy : modS (tw_nc A) (fun c => μ1 34 48 (8 + c)) (fun c => μ1 34 47 (8 + c)) ↔ symB (onB A T 7) := by
        rw [modS_sym (by rw [← hnc]; exact h8)]
        · unfold symB
          constructor
          · intro z a ha
            rw [← (hbb a ha).2.2.2.2]
            exact ⟨(z a ha).1, fun e he => by rw [← (hbb e he).2.2.2.2]; exact (z a ha).2 e he⟩
          · intro z a ha
            dsimp only
            rw [(hbb a ha).2.2.2.2]
            exact ⟨(z a ha).1, fun e he => by rw [(hbb e he).2.2.2.2]; exact (z a ha).2 e he⟩
        · intro c hc1 hc2
          rw [(hbb c hc2).2.2.2.2, o7, if_neg (by omega)]
        · intro c hc1 hc2
          rw [← hnc] at hc1
          have q5 := (hbb c (by omega)).2.2.1
          rw [mK_ne (A := A) (by omega), mB5, Nat.mul_one] at q5
          rw [q5] at hc2
          have hc2 : (if c < tw_nc A then tT T c else -1) = -1 := hc2
          rw [if_pos (by omega)] at hc2
          rw [(hbb c (by omega)).2.2.2.2, o7, if_pos hc1]
          rcases hch c hc1 with ⟨-, -, -, -, z⟩ | ⟨-, -, -, z, -⟩
          · exact z
          · omega
      refine VX12_comesOn_237 C R ?_
      rw [hM1.1, Int.toNat_natCast, o1 34 18 b (by unfold inL; omega), e18]
      refine ⟨⟨by omega, by omega⟩, fun _ => mo_sym hM1 i48 (fun z => ⟨Or.inr rfl, k1 ?_ μ1 o1 i8 ?_⟩) (fun z => ⟨Or.inl rfl, k0 (fun y => z (sy.mpr y.2.2.2.2.2)) μ1 o1⟩), fun q => absurd (by omega) q⟩
      · exact ⟨by rw [← hnc, ← hnk]; exact hn, by rw [← hnc, ← hnk]; exact hck, ⟨by omega, by omega⟩, by rw [← hnc]; exact hch, by rw [← hnc, ← hnk]; exact fun j hj => (hk20 j hj).1, sy.mp z⟩
      · refine ⟨⟨hw.1, hw.2.1, hw.2.2⟩, fun e he => ?_, fun j hj => ?_, fun i hi => ?_⟩
        · rw [mK6, mK7, Nat.mul_one]
          exact hbb e he
        · rw [mK8, Nat.mul_one]
          show _ = if j < tw_nk A then oN (T (4 + 6 * tw_nc A + j)) else -1
          rw [← hnc, ← hnk]
          by_cases y : j < k
          · rw [if_pos y]; exact (hk20 j y).2
          · rw [if_neg y]; exact hge j (by omega) hj
        · rw [mK09, hw.2.2] at hi; omega
    | succ r ih =>
      intro k μ1 hk o1 hw hbb i8 hk20 hge
      have hM1 := hM.ofL o1
      have g := hT (4 + 6 * nc + k) (by omega)
      have tp : μ1 34 1 (4 + 6 * nc + k) = T (4 + 6 * nc + k) := by rw [o1 34 1 _ (by unfold inL; omega)]; exact g.2
      have at282 : oN (T (4 + 6 * nc + k)) ≤ 20 → mW G X YX12_comesOn μ1 282 [some (vR 34 0), some (vI (n : Int)), some (vI ((4 + 6 * nc : Nat) : Int)), some (vI cs), some (vI (k : Int))] [] := fun h20 => by
        refine VX12_comesOn_282 C R ?_
        rw [w32_nat (by omega), Int.toNat_natCast, tp]
        refine ⟨⟨by omega, by omega⟩, mo_oN ?_⟩
        rw [show w32 (3 + (k : Int)) = ((3 + k : Nat) : Int) by rw [w32_le (by omega) (by omega)]; omega, Int.toNat_natCast]
        refine ⟨⟨by omega, by omega⟩, fun μ3 e3 x4 e4 => ?_⟩
        rw [w32_s (by omega)] at e4
        subst e4
        have f3 : ∀ x y z, ¬ (x = 34 ∧ y = 50 ∧ z = 3 + k) → μ3 x y z = μ1 x y z := fun x y z q => by rw [e3, m_up_ne _ _ q]
        refine ih (k + 1) μ3 (by omega) ?_ ?_ (fun e he => ?_) (by rw [f3 34 49 1 (by omega)]; exact i8) (fun j hj => ?_) (fun j h1 h2 => by rw [f3 34 50 _ (by omega)]; exact hge j h1 h2)
        · rw [e3]; exact o1.tr (ofL.up ⟨rfl, by omega⟩)
        · rw [f3 34 43 1 (by omega), f3 34 44 1 (by omega), f3 34 51 1 (by omega)]; exact hw
        · have hbe := hbb e he
          rw [mK_ne (A := A) (by omega), mB3, mB4, mB5, Nat.mul_one] at hbe ⊢
          rw [f3 34 45 _ (by omega), f3 34 46 _ (by omega), f3 34 47 _ (by omega), f3 34 48 _ (by omega), f3 34 49 1 (by omega)]; exact hbe
        · by_cases z : j = k
          · subst z; exact ⟨h20, by rw [e3, m_up_at]⟩
          · rw [f3 34 50 _ (by omega)]; exact hk20 j (by omega)
      refine VX12_comesOn_237 C R ?_
      rw [hM1.1, Int.toNat_natCast, o1 34 18 b (by unfold inL; omega), e18, w32_nat (by omega), Int.toNat_natCast, tp]
      refine ⟨⟨by omega, by omega⟩, fun q => absurd q (by omega), fun _ => ⟨⟨by omega, by omega⟩, fun q => at282 ?_, fun q => ⟨⟨by omega, by omega⟩, fun q2 => at282 ?_, fun q2 => k0 (fun z => ?_) μ1 o1⟩⟩⟩
      · unfold oN; split <;> omega
      · unfold oN; split <;> omega
      · have := z.2.2.2.2.1 k (by omega)
        rw [← hnc] at this
        unfold oN at this
        rw [if_neg q2] at this
        exact q this
  -- children
  have L1 : ∀ cs : Int, chT T (4 + 6 * nc + nk) = T (4 + 6 * nc + nk) → ∀ (r c : Nat) (μ1 : m_M), c + r = nc → ofL 1 μ μ1 → (μ1 34 43 1 = 256 * T 0 + T 1 ∧ μ1 34 44 1 = 256 * T 2 + T 3 ∧ μ1 34 51 1 = 0) → (∀ e, e < c → okC A T e ∧ μ1 34 45 (8 + e) = kT T e ∧ μ1 34 46 (8 + e) = pT T e ∧ μ1 34 47 (8 + e) = tT T e ∧ μ1 34 48 (8 + e) = T (4 + 6 * e + 5)) → (∀ e, nc ≤ e → e < 8 → mK A (μ1 34) 1 3 e = -1 ∧ mK A (μ1 34) 1 4 e = -1 ∧ mK A (μ1 34) 1 5 e = -1 ∧ μ1 34 48 (8 + e) = 0) → in8 (μ1 34 49 1) → (∀ e, e < 8 → tb (μ1 34 49 1) e = decide (e < c ∧ T (4 + 6 * e + 4) = 1)) → (∀ j, nk ≤ j → j < 3 → μ1 34 50 (3 + j) = -1) → mW G X YX12_comesOn μ1 196 [some (vR 34 0), some (vI (n : Int)), some (vI ((4 + 6 * nc : Nat) : Int)), some (vI cs), some (vI (c : Int))] [] := by
    intro cs hck r
    induction r with
    | zero =>
      intro c μ1 hc o1 hw hlt hge i8 htb hlit
      have hM1 := hM.ofL o1
      have ec : c = nc := by omega
      subst ec
      refine VX12_comesOn_196 C R ?_
      rw [hM1.1, Int.toNat_natCast, o1 34 15 b (by unfold inL; omega), e15]
      refine ⟨⟨by omega, by omega⟩, fun _ => ?_, fun q => absurd (by omega) q⟩
      refine L2 cs (fun e he => (hlt e he).1) hck nk 0 μ1 (by omega) o1 hw (fun e he => ?_) i8 (fun j hj => by omega) hlit
      show mK A (μ1 34) 1 3 e = (if e < tw_nc A then kT T e else -1) ∧ mK A (μ1 34) 1 4 e = (if e < tw_nc A then pT T e else -1) ∧ mK A (μ1 34) 1 5 e = (if e < tw_nc A then tT T e else -1) ∧ (if tb (μ1 34 49 1) e then (1 : Int) else 0) = (if e < tw_nc A then T (4 + 6 * e + 4) else 0) ∧ μ1 34 48 (8 + e) = (if e < tw_nc A then T (4 + 6 * e + 5) else 0)
      rw [← hnc, htb e he]
      by_cases y : e < c
      · simp only [if_pos y]
        obtain ⟨ok, v1, v2, v3, v4⟩ := hlt e y
        rw [mK_ne (A := A) (by omega), mB3, mB4, mB5, Nat.mul_one]
        refine ⟨v1, v2, v3, ?_, v4⟩
        have b4 := (hT (4 + 6 * e + 4) (by omega)).1
        have t4 : T (4 + 6 * e + 4) = 0 ∨ T (4 + 6 * e + 4) = 1 := by
          rcases ok with ⟨-, -, -, z, -⟩ | ⟨-, -, -, -, z⟩ <;> omega
        rcases t4 with z | z
        · rw [z]; simp
        · rw [z]; simp [y]
      · simp only [if_neg y]
        obtain ⟨v1, v2, v3, v4⟩ := hge e (by omega) he
        refine ⟨v1, v2, v3, ?_, v4⟩
        simp [y]
    | succ r ih =>
      intro c μ1 hc o1 hw hlt hge i8 htb hlit
      have hM1 := hM.ofL o1
      refine VX12_comesOn_196 C R ?_
      rw [hM1.1, Int.toNat_natCast, o1 34 15 b (by unfold inL; omega), e15, w32_le (z := 6 * (c : Int)) (by omega) (by omega), w32_le (by omega) (by omega), show 4 + 6 * (c : Int) = ((4 + 6 * c : Nat) : Int) by omega]
      refine ⟨⟨by omega, by omega⟩, fun q => absurd q (by omega), fun _ => mo_rdC (n := n) hM1 (fun i hi => by rw [o1 34 1 i (by unfold inL; omega)]; exact hT i hi) (by omega) (by omega) hn2 (fun e he => ⟨(hlt e he).2.1, (hlt e he).2.2.1⟩) (fun ok μ2 f2 v45 v46 v47 v48 v49 => ⟨fun _ x4 e4 => ?_, z1⟩) (fun ok μ2 o2 => ⟨z0, fun _ => k0 (fun z => ok (z.2.2.2.1 c (by omega))) μ2 (o1.tr o2)⟩)⟩
      rw [w32_s (by omega)] at e4
      subst e4
      have i0 : in8 (if T (4 + 6 * c + 4) = 1 then i_shl 1 (c : Int) else 0) := by
        unfold in8
        split
        · exact shl_in (n := 8) (by omega) (by decide)
        · omega
      refine ih (c + 1) μ2 (by omega) (fun x y z q => (f2 x y z (fun w => q (by unfold inL; omega))).trans (o1 x y z q)) ?_ (fun e he => ?_) (fun e h1 h2 => ?_) (by rw [v49]; exact i8.or i0) (fun e he => ?_) (fun j h1 h2 => by rw [f2 34 50 _ (by omega)]; exact hlit j h1 h2)
      · rw [f2 34 43 1 (by omega), f2 34 44 1 (by omega), f2 34 51 1 (by omega)]; exact hw
      · by_cases z : e = c
        · subst z; exact ⟨ok, v45, v46, v47, v48⟩
        · rw [f2 34 45 _ (by omega), f2 34 46 _ (by omega), f2 34 47 _ (by omega), f2 34 48 _ (by omega)]; exact hlt e (by omega)
      · have hg := hge e h1 h2
        rw [mK_ne (A := A) (by omega), mB3, mB4, mB5, Nat.mul_one] at hg ⊢
        rw [f2 34 45 _ (by omega), f2 34 46 _ (by omega), f2 34 47 _ (by omega), f2 34 48 _ (by omega)]; exact hg
      · rw [v49, tb_or i8.bt i0.bt, htb e he]
        by_cases y : T (4 + 6 * c + 4) = 1
        · rw [if_pos y, tb_shl (by omega)]
          by_cases z : e = c
          · subst z; simp [y]
          · have z1 : decide (c = e) = false := by simp; omega
            rw [z1, Bool.or_false]
            apply decide_eq_decide.mpr
            omega
        · rw [if_neg y, tb_0, Bool.or_false]
          apply decide_eq_decide.mpr
          by_cases z : e = c
          · subst z
            exact ⟨fun w => by have := w.1; omega, fun w => absurd w.2 y⟩
          · omega
  have L0 : ∀ (r i : Nat), i + r = 4 + 6 * nc + nk → mW G X YX12_comesOn μ 85 [some (vR 34 0), some (vI (n : Int)), some (vI ((4 + 6 * nc : Nat) : Int)), some (vI (chT T i)), some (vI (i : Int))] [] := by
    intro r
    induction r with
    | zero =>
      intro i hi
      have ei : i = 4 + 6 * nc + nk := by omega
      subst ei
      have g := hT (4 + 6 * nc + nk) (by omega)
      refine VX12_comesOn_85 C R ?_
      rw [wn, Int.toNat_natCast, g.2]
      refine ⟨fun _ => ⟨⟨by omega, by omega⟩, fun hck => ?_, fun hck => k0 (fun z => hck (by have := z.2.1; rw [← hnc, ← hnk] at this; exact this.symm)) μ (ofL.rf 1 μ)⟩, fun q => absurd (by omega) q⟩
      have h9 : 0 ≤ μ 34 51 0 ∧ μ 34 51 0 ≤ 8 := by
        have e9 : μ 34 51 0 = B 0 9 := hl.1.2.2
        have h9 := hB.2.2.1
        have h8' : m_cnt (fun c => B 5 c != -1) 0 8 ≤ 8 := m_cnt_le _ _ _
        omega
      refine cm_copiesK (A := A) (x := 1) (y := 0) (by decide) (by decide) (by decide) h9 (fun μ1 o1 f1 _ qb μ2 e2 μ3 e3 μ4 e4 μ5 e5 => ?_)
      have tp : ∀ i, i < n → μ1 34 1 i = T i := fun i hi => by rw [f1 1 i (by omega)]; exact (hT i hi).2
      rw [tp 0 (by omega), tp 1 (by omega), or_shl8 g0.1 g1.1] at e2
      rw [e2, m_up_ne (a := 34) (b := 1) (c := 2) _ _ (by omega), m_up_ne (a := 34) (b := 1) (c := 3) _ _ (by omega), tp 2 (by omega), tp 3 (by omega), or_shl8 g2.1 g3.1] at e3
      have f5 : ∀ x y z, ¬ (x = 34 ∧ (y = 43 ∨ y = 44 ∨ y = 49 ∨ y = 51) ∧ z = 1) → μ5 x y z = μ1 x y z := fun x y z q => by rw [e5, m_up_ne _ _ (by omega), e4, m_up_ne _ _ (by omega), e3, m_up_ne _ _ (by omega), m_up_ne _ _ (by omega)]
      have qbl := qb.tr hl
      have v49 : μ5 34 49 1 = 0 := by rw [e5, m_up_ne _ _ (by omega), e4, m_up_at]
      refine L1 _ hck.symm nc 0 μ5 (by omega) ?_ ⟨?_, ?_, ?_⟩ (fun e he => by omega) (fun e h1 h2 => ?_) (by rw [v49]; unfold in8; omega) (fun e he => ?_) (fun j h1 h2 => ?_)
      · rw [e5, e4, e3]
        exact (((o1.tr (ofL.up ⟨rfl, by omega⟩)).tr (ofL.up ⟨rfl, by omega⟩)).tr (ofL.up ⟨rfl, by omega⟩)).tr (ofL.up ⟨rfl, by omega⟩)
      · rw [e5, m_up_ne _ _ (by omega), e4, m_up_ne _ _ (by omega), e3, m_up_ne _ _ (by omega), m_up_at]
      · rw [e5, m_up_ne _ _ (by omega), e4, m_up_ne _ _ (by omega), e3, m_up_at]
      · rw [e5, m_up_at]
      · obtain ⟨b3, b4, b5, b6, b7⟩ := hB.out h2 (by rw [← hnc]; exact h1)
        have := qbl.2.1 e h2
        rw [mK7, Nat.mul_one] at this
        rw [mK_at (A := A) (M := μ1 34) (M' := μ5 34) (v := 1) (k := 3) (i := e) (f5 34 45 _ (by omega)), mK_at (A := A) (M := μ1 34) (M' := μ5 34) (v := 1) (k := 4) (i := e) (f5 34 46 _ (by omega)), mK_at (A := A) (M := μ1 34) (M' := μ5 34) (v := 1) (k := 5) (i := e) (f5 34 47 _ (by omega)), f5 34 48 _ (by omega)]
        exact ⟨this.1.trans b3, this.2.1.trans b4, this.2.2.1.trans b5, this.2.2.2.2.trans b7⟩
      · rw [v49, tb_0]; simp
      · have := qbl.2.2.1 j h2
        rw [mK8, Nat.mul_one] at this
        rw [f5 34 50 _ (by omega), this]
        exact (hB.2.2.2.1 j h2).2 (by rw [← hnk]; exact h1)
    | succ r ih =>
      intro i hi
      have g := hT i (by omega)
      have hc := chT_in T i
      refine VX12_comesOn_85 C R ?_
      rw [wn, w32_s (by omega), Int.toNat_natCast, Int.toNat_natCast, g.2, w32_le (z := 5 * chT T i) (by omega) (by omega), w32_le (z := 5 * chT T i + T i) (by omega) (by omega), Int.tmod_eq_emod_of_nonneg (by omega)]
      refine ⟨fun q => absurd q (by omega), fun _ => ⟨⟨by omega, by omega⟩, fun x7 e7 x8 e8 => ?_⟩⟩
      subst e7; subst e8
      exact ih (i + 1) (by omega)
  exact L0 (4 + 6 * nc + nk) 0 (by omega)
theorem S_on : SIM G YX11_on YX12_on [] := by
  intro d μ ⟨A, t, s, b, h⟩
  obtain ⟨L, hL, e1, e2, hi⟩ := h.2.2.2.1
  have hA := h.1.1.2.2.2.1
  have hBI := h.2.1.1
  have ht : t ≠ 1 ∧ t ≠ 11 := by rcases h.1.2.2.2.1 with z | z <;> omega
  obtain ⟨T, hTd⟩ : ∃ T, T = μ 34 1 := ⟨_, rfl⟩
  have hT : ∀ i, i < L → (0 ≤ T i ∧ T i ≤ 255) ∧ μ 1 1 i = sg (T i) := by rw [hTd]; exact hi
  have stk : μ t 0 7 = tw_stock A := by rw [← h.1.1.2.2.1]; rfl
  refine EX11_on (fun x1 ex1 μ2 em2 => ?_)
  rw [e1] at ex1
  subst ex1
  have q2 : ∀ x y z, ¬ (x = 1 ∧ y = 0 ∧ z = 1) → μ2 x y z = μ x y z := fun x y z q => by rw [em2, m_up_ne _ _ q]
  have et : ∀ y z, μ2 t y z = μ t y z := fun y z => q2 t y z (fun z => ht.1 z.1)
  refine ⟨t, by rw [q2 1 0 2 (by omega)]; exact h.1.2.2.1.1, h.1.1.1, c_rd (T := T) hA h.1.1.1 (by rw [et]; exact h.1.1.nc) (by rw [et]; exact h.1.1.nk) (by rw [et]; exact stk) (fun k hk => by rw [et]; exact h.1.1.room hk) (fun i hi2 => by rw [q2 1 1 i (by omega)]; exact hT i hi2) hL (fun ok μ4 o4 b4 => ⟨fun _ => ?_, z1⟩) (fun ok μ4 o4 => ⟨z0, fun _ => cl_rF (w := 5) (by decide) ⟨Or.inl rfl, ?_⟩⟩)⟩
  · -- it comes on
    have hBn := ok.BI hA (fun i hi2 => (hT i hi2).1)
    refine c_copyFrom (by decide) (by decide) (by decide) (b4.sy.BI hBn) (fun μ6 o6 b6 μ7 e7 => EX1_forget (fun μ8 e8 => ?_))
    have f8 : ∀ x y z, x ≠ 11 → x ≠ 10 → ¬ (x = 6 ∧ y = 0 ∧ z = 2) → ¬ (x = 7 ∧ y = 0 ∧ z = 3) → ¬ (x = 1 ∧ y = 0 ∧ z = 1) → μ8 x y z = μ x y z := fun x y z k1 k2 k3 k4 k5 => by
      rw [e8, m_up_ne _ _ k4, e7, m_up_ne _ _ k3, o6 x y z k2, o4 x y z k1]; exact q2 x y z k5
    have e34 : μ8 34 = μ 34 := by funext y z; exact f8 34 y z (by omega) (by omega) (by omega) (by omega) (by omega)
    have e810 : μ8 10 = μ6 10 := by funext y z; rw [e8, m_up_ne _ _ (by omega), e7, m_up_ne _ _ (by omega)]
    have w62 : μ8 6 0 2 = 0 := by rw [e8, m_up_ne _ _ (by omega), e7, m_up_at]
    have w73 : μ8 7 0 3 = -1 := by rw [e8, m_up_at]
    have w11 : μ8 1 0 1 = 0 := by rw [e8, m_up_ne _ _ (by omega), e7, m_up_ne _ _ (by omega), o6 1 0 1 (by omega), o4 1 0 1 (by omega), em2, m_up_at]
    refine EX12_on (fun x1 ex1 μ9 e9 => ?_)
    rw [e34, e2] at ex1
    subst ex1
    have q9 : ∀ x y z, ¬ (x = 34 ∧ y = 0 ∧ z = 1) → μ9 x y z = μ8 x y z := fun x y z q => by rw [e9, m_up_ne _ _ q]
    have m9 : mK A (μ9 34) 0 = mK A (μ 34) 0 := by rw [← e34]; exact mK_congr _ (fun y z _ _ => q9 34 y z (by omega))
    have hM9 : MT μ9 b A := h.1.2.1.mv (fun x c hx => by rw [q9 34 x c (by omega), e34])
    refine mo_comes (T := T) (B := μ 10) hM9 (by rw [m9]; exact h.2.1.2.1) hBI (fun i hi2 => ⟨(hT i hi2).1, by rw [q9 34 1 i (by omega), e34, hTd]⟩) hL (fun _ μ3 o3 i8 b3 => ⟨fun _ => ?_, z1⟩) (fun z => absurd ok z)
    have v51 : μ3 34 51 1 = 0 := b3.1.2.2
    refine cm_copiesK (A := A) (x := 0) (y := 1) (by decide) (by decide) (by decide) (by rw [v51]; omega) (fun μ5 o5 f5 q49 qb μ10 e10 => ⟨rfl, A, t, s, b, ?_⟩)
    have E : ∀ x y z, x ≠ 11 → x ≠ 10 → ¬ (x = 6 ∧ y = 0 ∧ z = 2) → ¬ (x = 7 ∧ y = 0 ∧ z = 3) → ¬ (x = 1 ∧ y = 0 ∧ z = 1) → ¬ (x = 34 ∧ y = 0 ∧ (z = 1 ∨ z = 53)) → ¬ inL 1 x y z → ¬ inL 0 x y z → μ10 x y z = μ x y z := fun x y z k1 k2 k3 k4 k5 k6 k7 k8 => by
      rw [e10, m_up_ne _ _ (by omega), o5 x y z k8, o3 x y z k7, q9 x y z (by omega)]; exact f8 x y z k1 k2 k3 k4 k5
    have c8 : ∀ x y z, ¬ (x = 34) → μ10 x y z = μ8 x y z := fun x y z hx => by
      rw [e10, m_up_ne _ _ (by omega), o5 x y z (by unfold inL; omega), o3 x y z (by unfold inL; omega), q9 x y z (by omega)]
    have e1010 : μ10 10 = μ6 10 := by rw [← e810]; funext y z; exact c8 10 y z (by omega)
    obtain ⟨cu, nu, fu, hbu, ⟨u1, u2, u3, u4⟩, -⟩ := h.2.2.1
    obtain ⟨r1, r2, r3, r4, r5, r6, r7, r8, r9⟩ := h
    have bq : beq (μ6 10) (onB A T) := b6.tr b4
    refine ⟨r1.rd (fun x y z q => E x y z (by unfold rd_town at q; omega) (by unfold rd_town at q; omega) (by unfold rd_town at q; omega) (by unfold rd_town at q; omega) (by unfold rd_town at q; omega) (by unfold rd_town at q; omega) (by unfold rd_town at q; unfold inL; omega) (by unfold rd_town at q; unfold inL; omega)), ⟨by rw [e1010]; exact bq.sy.BI hBn, ?_, ?_⟩, ⟨0, nu, fu, ⟨by omega, by omega, by omega⟩, ⟨?_, ?_, ?_, ?_⟩, fun k hk => by omega⟩, ⟨0, by omega, ?_, ?_, fun i hi => by omega⟩, r5.rd (fun x y z q => E x y z (by unfold rd_misc at q; omega) (by unfold rd_misc at q; omega) (by unfold rd_misc at q; omega) (by unfold rd_misc at q; omega) (by unfold rd_misc at q; omega) (by unfold rd_misc at q; omega) (by unfold rd_misc at q; unfold inL; omega) (by unfold rd_misc at q; unfold inL; omega)), r6.rd (fun x y z q => E x y z (by unfold rd_see at q; omega) (by unfold rd_see at q; omega) (by unfold rd_see at q; omega) (by unfold rd_see at q; omega) (by unfold rd_see at q; omega) (by unfold rd_see at q; omega) (by unfold rd_see at q; unfold inL; omega) (by unfold rd_see at q; unfold inL; omega)), Or.inl ?_, r8.rd (fun x y z q => E x y z (by unfold rd_img at q; omega) (by unfold rd_img at q; omega) (by unfold rd_img at q; omega) (by unfold rd_img at q; omega) (by unfold rd_img at q; omega) (by unfold rd_img at q; omega) (by unfold rd_img at q; unfold inL; omega) (by unfold rd_img at q; unfold inL; omega)), R_own.rd r9 (fun y z => E 3 y z (by omega) (by omega) (by omega) (by omega) (by omega) (by omega) (by unfold inL; omega) (by unfold inL; omega))⟩
    · rw [e1010]
      have em : mK A (μ10 34) 0 = mK A (μ5 34) 0 := mK_congr _ (fun y z _ _ => by rw [e10, m_up_ne _ _ (by omega)])
      rw [em]
      exact (qb.tr b3).tr bq.sy
    · rw [e10, m_up_ne _ _ (by omega), q49]; exact i8
    · rw [c8 6 0 2 (by omega)]; exact w62
    · rw [E 6 0 1 (by omega) (by omega) (by omega) (by omega) (by omega) (by omega) (by unfold inL; omega) (by unfold inL; omega)]; exact u2
    · rw [e10, m_up_at]; rfl
    · rw [E 34 0 52 (by omega) (by omega) (by omega) (by omega) (by omega) (by omega) (by unfold inL; omega) (by unfold inL; omega)]; exact u4
    · rw [c8 1 0 1 (by omega)]; exact w11
    · rw [e10, m_up_ne _ _ (by omega), o5 34 0 1 (by unfold inL; omega), o3 34 0 1 (by unfold inL; omega), e9, m_up_at]; rfl
    · rw [c8 7 0 3 (by omega)]; exact w73
  · -- refused
    obtain ⟨μ1, em1⟩ : ∃ μ1, μ1 = m_up μ4 1 13 5 (w32 (μ4 1 13 5 + 1)) := ⟨_, rfl⟩
    rw [← em1]
    have q1 : ∀ x y z, x ≠ 11 → ¬ (x = 1 ∧ (y = 13 ∨ y = 0 ∧ z = 1)) → μ1 x y z = μ x y z := fun x y z k1 k2 => by
      rw [em1, m_up_ne _ _ (by omega), o4 x y z k1]; exact q2 x y z (by omega)
    have e34 : μ1 34 = μ 34 := by funext y z; exact q1 34 y z (by omega) (by omega)
    refine EX12_on (fun x1 ex1 μ9 e9 => ?_)
    rw [e34, e2] at ex1
    subst ex1
    have q9 : ∀ x y z, ¬ (x = 34 ∧ y = 0 ∧ z = 1) → μ9 x y z = μ1 x y z := fun x y z q => by rw [e9, m_up_ne _ _ q]
    have m9 : mK A (μ9 34) 0 = mK A (μ 34) 0 := by rw [← e34]; exact mK_congr _ (fun y z _ _ => q9 34 y z (by omega))
    have hM9 : MT μ9 b A := h.1.2.1.mv (fun x c hx => by rw [q9 34 x c (by omega), e34])
    refine mo_comes (T := T) (B := μ 10) hM9 (by rw [m9]; exact h.2.1.2.1) hBI (fun i hi2 => ⟨(hT i hi2).1, by rw [q9 34 1 i (by omega), e34, hTd]⟩) hL (fun z => absurd z ok) (fun _ μ3 o3 => ⟨z0, fun _ => mo_rf (w := 5) (by decide) ⟨fun _ => ⟨rfl, A, t, s, b, ?_⟩, fun q => absurd (by decide) q⟩⟩)
    -- what is scratch first, then the tape and the refusals
    have S : ∀ x y z, ¬ scr x y z → ¬ (x = 1 ∧ (y = 13 ∨ y = 0 ∧ z = 1)) → ¬ (x = 34 ∧ (y = 42 ∨ y = 0 ∧ z = 1)) → m_up μ3 34 42 5 (w32 (μ3 34 42 5 + 1)) x y z = μ x y z := fun x y z k1 k2 k3 => by
      rw [m_up_ne _ _ (by omega), o3 x y z (fun w => k1 (by unfold inL at w; unfold scr; omega)), q9 x y z (by omega)]
      exact q1 x y z (fun w => k1 (Or.inr (Or.inl w))) k2
    obtain ⟨μa, ha⟩ : ∃ μa : m_M, μa = fun x y z => if (x = 1 ∧ (y = 13 ∨ y = 0 ∧ z = 1)) ∨ (x = 34 ∧ (y = 42 ∨ y = 0 ∧ z = 1)) then m_up μ3 34 42 5 (w32 (μ3 34 42 5 + 1)) x y z else μ x y z := ⟨_, rfl⟩
    have va : ∀ x y z, (x = 1 ∧ (y = 13 ∨ y = 0 ∧ z = 1)) ∨ (x = 34 ∧ (y = 42 ∨ y = 0 ∧ z = 1)) → μa x y z = m_up μ3 34 42 5 (w32 (μ3 34 42 5 + 1)) x y z := fun x y z q => by rw [ha]; exact if_pos q
    have vn : ∀ x y z, ¬ ((x = 1 ∧ (y = 13 ∨ y = 0 ∧ z = 1)) ∨ (x = 34 ∧ (y = 42 ∨ y = 0 ∧ z = 1))) → μa x y z = μ x y z := fun x y z q => by rw [ha]; exact if_neg q
    have RAa : RA μa A t s b := by
      refine h.tz (fun x y z a c => vn x y z (by omega)) ?_ ?_ (fun i hi6 => ?_)
      · rw [va 1 0 1 (by omega), m_up_ne _ _ (by omega), o3 1 0 1 (by unfold inL; omega), q9 1 0 1 (by omega), em1, m_up_ne _ _ (by omega), o4 1 0 1 (by omega), em2, m_up_at]
      · rw [va 34 0 1 (by omega), m_up_ne _ _ (by omega), o3 34 0 1 (by unfold inL; omega), e9, m_up_at]
      · have e5 := h.2.2.2.2.1.2.2 i hi6
        rw [va 34 42 i (by omega), va 1 13 i (by omega), m_up_ne (a := 1) (b := 13) _ _ (by omega), o3 1 13 i (by unfold inL; omega), q9 1 13 i (by omega)]
        by_cases z : i = 5
        · subst z
          rw [m_up_at, o3 34 42 5 (by unfold inL; omega), q9 34 42 5 (by omega), e34, em1, m_up_at, o4 1 13 5 (by omega), q2 1 13 5 (by omega), e5]
        · rw [m_up_ne _ _ (by omega), o3 34 42 i (by unfold inL; omega), q9 34 42 i (by omega), e34, em1, m_up_ne _ _ (by omega), o4 1 13 i (by omega), q2 1 13 i (by omega)]; exact e5
    refine RAa.fS (fun x y z k1 => ?_)
    by_cases k : (x = 1 ∧ (y = 13 ∨ y = 0 ∧ z = 1)) ∨ (x = 34 ∧ (y = 42 ∨ y = 0 ∧ z = 1))
    · rw [va x y z k]
    · rw [vn x y z k]; exact S x y z k1 (by omega) (by omega)
end ON3
