set_option maxRecDepth 20000 in
theorem cm_inPlace {G : m_G} {d b v : Nat} {μ : m_M} {A : m_T} (hT : MT μ b A) (hv : v < 22) {k p : Int} {K : Int → m_M → Prop} (h : K (m_fst (fun c => μ 34 45 (8 * v + c) == k && μ 34 46 (8 * v + c) == p) 0 (tw_nc A)) μ) : c_i G (d + 1) YX12_inPlace [vR 34 0, vI (v : Int), vI k, vI p] μ K := by
  have hnc := hT.2.2.2.1.1
  have hb1 := hT.2.1
  refine EX12_inPlace (fun X C R => ?_)
  have L : ∀ r i : Nat, i + r = tw_nc A → K (m_fst (fun c => μ 34 45 (8 * v + c) == k && μ 34 46 (8 * v + c) == p) i r) μ → mW G X YX12_inPlace μ 3 [some (vR 34 0), some (vI (v : Int)), some (vI k), some (vI p), some (vI (i : Int))] [] := by
    intro r
    induction r with
    | zero =>
      intro i hi h
      refine VX12_inPlace_3 C R ?_
      rw [hT.1, Int.toNat_natCast, hT.nc]
      exact ⟨⟨by omega, by omega⟩, fun _ => h, fun c => absurd (by omega) c⟩
    | succ r ih =>
      intro i hi h
      unfold m_fst at h
      refine VX12_inPlace_3 C R ?_
      rw [hT.1, Int.toNat_natCast, hT.nc, w_8b (by omega) (by omega), Int.toNat_natCast]
      refine ⟨⟨by omega, by omega⟩, fun c => absurd c (by omega), fun _ => ⟨⟨by omega, by omega⟩, fun c1 x ex => ?_, fun c1 => ⟨⟨by omega, by omega⟩, fun c2 x ex => ?_, fun c2 => ?_⟩⟩⟩
      · rw [if_neg (by simp [c1])] at h
        rw [w32_s (by omega)] at ex; subst ex
        exact ih (i + 1) (by omega) h
      · rw [if_neg (by simp [c2])] at h
        rw [w32_s (by omega)] at ex; subst ex
        exact ih (i + 1) (by omega) h
      · rw [if_pos (by simp [c1, c2])] at h
        exact h
  exact L (tw_nc A) 0 (by omega) h
set_option maxRecDepth 20000 in
theorem cm_full {G : m_G} {d b v : Nat} {μ : m_M} {A : m_T} (hT : MT μ b A) (hv : v < 22) {k : Int} {K : Int → m_M → Prop} (h : K (m_cnt (fun c => μ 34 45 (8 * v + c) == k) 0 (tw_nc A) : Int) μ) : c_i G (d + 1) YX12_full [vR 34 0, vI (v : Int), vI k] μ K := by
  have hnc := hT.2.2.2.1.1
  have hb1 := hT.2.1
  refine EX12_full (fun X C R => ?_)
  have L : ∀ r i a : Nat, i + r = tw_nc A → a ≤ i → K ((a + m_cnt (fun c => μ 34 45 (8 * v + c) == k) i r : Nat) : Int) μ → mW G X YX12_full μ 5 [some (vR 34 0), some (vI (v : Int)), some (vI k), some (vI (a : Int)), some (vI (i : Int))] [] := by
    intro r
    induction r with
    | zero =>
      intro i a hi ha h
      refine VX12_full_5 C R ?_
      rw [hT.1, Int.toNat_natCast, hT.nc]
      exact ⟨⟨by omega, by omega⟩, fun _ => h, fun c => absurd (by omega) c⟩
    | succ r ih =>
      intro i a hi ha h
      unfold m_cnt at h
      refine VX12_full_5 C R ?_
      rw [hT.1, Int.toNat_natCast, hT.nc, w_8b (by omega) (by omega), Int.toNat_natCast]
      refine ⟨⟨by omega, by omega⟩, fun c => absurd c (by omega), fun _ => ⟨⟨by omega, by omega⟩, fun c1 x ex y ey => ?_, fun c1 x ex y ey => ?_⟩⟩
      · rw [if_neg (by simp [c1])] at h
        rw [w32_s (by omega)] at ey; subst ey
        rw [show w32 ((a : Int) + 0) = (a : Int) by rw [w32_le (by omega) (by omega)]; omega] at ex; subst ex
        exact ih (i + 1) a (by omega) (by omega) (by rw [Nat.zero_add] at h; exact h)
      · rw [if_pos (by simp [c1])] at h
        rw [w32_s (by omega)] at ex ey; subst ex; subst ey
        exact ih (i + 1) (a + 1) (by omega) (by omega) (by rw [Nat.add_assoc]; exact h)
  exact L (tw_nc A) 0 0 (by omega) (by omega) (by rw [Nat.zero_add]; exact h)
set_option maxRecDepth 20000 in
theorem cm_burnt {G : m_G} {d b v : Nat} {μ : m_M} {A : m_T} (hT : MT μ b A) (hv : v < 22) {k : Nat} (hk : k < tw_nk A) (h1 : sm (μ 34 50 (3 * v + k))) (h3 : sm (μ 34 43 v)) {K : Int → m_M → Prop} (h : ∀ μ1, offM μ μ1 → K (p_brn A (μ 34 50 (3 * v + k)) (μ 34 43 v) (tw_room A k) (m_cnt (fun c => μ 34 45 (8 * v + c) == (k : Int)) 0 (tw_nc A))) μ1) : c_i G (d + 5) YX12_burnt [vR 34 0, vI (v : Int), vI (k : Int)] μ K := by
  unfold sm at h1 h3
  have hTA := hT.2.2.2.1
  have hk3 : k < 3 := Nat.lt_of_lt_of_le hk hTA.2.1
  have hb1 := hT.2.1
  have hrm := hTA.2.2.2.1 k hk
  have hnc := hTA.1
  have hcn : m_cnt (fun c => μ 34 45 (8 * v + c) == (k : Int)) 0 (tw_nc A) ≤ tw_nc A := m_cnt_le _ _ _
  refine EX12_burnt ?_
  rw [w_3b (by omega) hk3, Int.toNat_natCast]
  refine ⟨⟨by omega, by omega⟩, fun x1 e1 => c_isTold (q := 3) hT (by decide) ?_⟩
  subst e1
  cases hl : tw_law A 3 with
  | none =>
    have hh := h μ (offM.rf μ)
    unfold p_brn at hh
    rw [hl] at hh
    exact ⟨fun z => absurd rfl z, fun _ => hh⟩
  | some f =>
    refine ⟨fun _ μ4 e4 => ⟨⟨by omega, by omega⟩, fun μ5 e5 => ?_⟩, fun z => absurd z (by show ¬ (1 : Int) = 0; decide)⟩
    have o4 : offM μ μ4 := by rw [e4]; exact offM.up (Or.inr rfl)
    rw [Int.toNat_natCast, o4 34 43 v (by omega)] at e5
    have o5 : offM μ μ5 := by rw [e5]; exact o4.tr (offM.up (Or.inr rfl))
    have T5 := hT.off o5
    rw [T5.1, w_3b (by omega) hk3, Int.toNat_natCast, T5.room hk]
    refine ⟨⟨by omega, by omega⟩, fun μ6 e6 => ?_⟩
    have o6 : offM μ μ6 := by rw [e6]; exact o5.tr (offM.up (Or.inr rfl))
    refine cm_full (hT.off o6) hv (fun μ9 e9 => ?_)
    have hcc : m_cnt (fun c => μ6 34 45 (8 * v + c) == (k : Int)) 0 (tw_nc A) = m_cnt (fun c => μ 34 45 (8 * v + c) == (k : Int)) 0 (tw_nc A) := by
      have : ∀ c, μ6 34 45 c = μ 34 45 c := fun c => o6 34 45 c (by omega)
      simp only [this]
    rw [hcc] at e9
    have o9 : offM μ μ9 := by rw [e9]; exact o6.tr (offM.up (Or.inr rfl))
    have T9 := hT.off o9
    generalize m_cnt (fun c => μ 34 45 (8 * v + c) == (k : Int)) 0 (tw_nc A) = cn at *
    have g : ∀ op, envM μ9 op = if us op = 10 then (cn : Int) else if us op = 9 then tw_room A k else if us op = 2 then μ 34 43 v else if us op = 1 then μ 34 50 (3 * v + k) else envM μ op := fun op => by rw [e9, envM_up, e6, envM_up, e5, envM_up, e4, envM_up]
    obtain ⟨a, n, k1, k2, k3, k4, k5⟩ := T9.told (q := 3) (by decide) hl
    have hw := (hTA.2.2.2.2.2.2.2 3 f hl).2
    have henv : ∀ op, p_fw 3 op = true → envM μ9 op = (fun op => if op = 268 then μ 34 50 (3 * v + k) else if op = 269 then μ 34 43 v else if op = 260 then tw_room A k else (cn : Int)) op := fun op hop => by
      rcases p_fw3 hop with z | z | z | z <;> subst z
      · rw [g]; rfl
      · rw [g]; rfl
      · rw [g]; rfl
      · rw [g]; rfl
    have hb0 : ∀ op, p_fw 3 op = true → -1000000 ≤ envM μ9 op ∧ envM μ9 op ≤ 1000000 := fun op hop => by
      rw [henv op hop]
      rcases p_fw3 hop with z | z | z | z <;> subst z
      · show _ ≤ μ 34 50 (3 * v + k) ∧ μ 34 50 (3 * v + k) ≤ _; omega
      · show _ ≤ μ 34 43 v ∧ μ 34 43 v ≤ _; omega
      · show _ ≤ tw_room A k ∧ tw_room A k ≤ _; omega
      · show _ ≤ (cn : Int) ∧ (cn : Int) ≤ _; omega
    refine c_reckons (q := 3) (ty := false) T9.1 T9.2.1 (by decide) k1 k2 k3 k5 (by rw [← k4]; exact hw) hb0 (fun μ10 o10 _ => ?_)
    have hin := (p_val_in hb0 hw).1
    rw [← k4]
    rw [p_val_congr henv hw] at hin ⊢
    have hh := h μ10 (o9.tr o10)
    unfold p_brn at hh
    rw [hl] at hh
    dsimp only at hh
    unfold sm at hin
    simp only [l_cmp_ge]
    generalize p_val _ f = x at hh hin ⊢
    refine ⟨fun c => ?_, fun c => ?_⟩
    · rw [if_neg (by omega)] at hh; rw [w32_le (by omega) (by omega)]; exact hh
    · rw [if_pos (by omega)] at hh; exact hh
