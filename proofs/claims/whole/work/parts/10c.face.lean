section S2
variable {G : m_G} {a1 a2 a3 a4 : Int}
theorem c_countCracked {G : m_G} {d o : Nat} (hc : m_cls o = 0) {μ : m_M} (h01 : ∀ c, c < 8 → μ o 6 c = 0 ∨ μ o 6 c = 1) {K : Int → m_M → Prop} (h : K (m_cnt (fun c => μ o 6 c == 1) 0 8 : Int) μ) : c_i G (d + 1) YX0_countCracked [vR o 0] μ K := by
  refine EX0_countCracked hc (fun X C R => ?_)
  have L : ∀ r i a : Nat, i + r = 8 → a ≤ i → K ((a + m_cnt (fun c => μ o 6 c == 1) i r : Nat) : Int) μ → mW G X YX0_countCracked μ 4 [some (vR o 0), some (vI (a : Int)), some (vI (i : Int))] [] := by
    intro r
    induction r with
    | zero => intro i a hi ha h; exact VX0_countCracked_4 C R hc ⟨fun _ => h, fun c => absurd (by omega) c⟩
    | succ r ih =>
      intro i a hi ha h
      unfold m_cnt at h
      refine VX0_countCracked_4 C R hc ⟨fun c => absurd c (by omega), fun _ => ⟨⟨by omega, by omega⟩, fun x ex y ey => ?_⟩⟩
      rw [Int.toNat_natCast] at ex
      rw [w32_s (by omega)] at ey; subst ey
      rcases h01 i (by omega) with e | e
      · rw [if_neg (by simp [e])] at h
        rw [e, w32_le (by omega) (by omega), Int.add_zero] at ex; subst ex
        exact ih (i + 1) a (by omega) (by omega) (by rw [Nat.zero_add] at h; exact h)
      · rw [if_pos (by simp [e])] at h
        rw [e, w32_s (by omega)] at ex; subst ex
        exact ih (i + 1) (a + 1) (by omega) (by omega) (by rw [Nat.add_assoc]; exact h)
  exact L 8 0 0 rfl (by omega) (by rw [Nat.zero_add]; exact h)
theorem c_countLit {G : m_G} {d o : Nat} (hc : m_cls o = 0) {μ : m_M} {K : Int → m_M → Prop} (h : K (m_cnt (fun c => μ o 8 c != -1) 0 3 : Int) μ) : c_i G (d + 1) YX0_countLit [vR o 0] μ K := by
  refine EX0_countLit hc (fun X C R => ?_)
  have L : ∀ r i a : Nat, i + r = 3 → a ≤ i → K ((a + m_cnt (fun c => μ o 8 c != -1) i r : Nat) : Int) μ → mW G X YX0_countLit μ 4 [some (vR o 0), some (vI (a : Int)), some (vI (i : Int))] [] := by
    intro r
    induction r with
    | zero => intro i a hi ha h; exact VX0_countLit_4 C R hc ⟨fun _ => h, fun c => absurd (by omega) c⟩
    | succ r ih =>
      intro i a hi ha h
      unfold m_cnt at h
      refine VX0_countLit_4 C R hc ⟨fun c => absurd c (by omega), fun _ => ⟨⟨by omega, by omega⟩, fun q x ex y ey => ?_, fun q x ex y ey => ?_⟩⟩
      · rw [Int.toNat_natCast] at q
        rw [if_pos (by simp [q])] at h
        rw [w32_s (by omega)] at ex ey; subst ex; subst ey
        exact ih (i + 1) (a + 1) (by omega) (by omega) (by rw [Nat.add_assoc]; exact h)
      · rw [Int.toNat_natCast] at q
        rw [if_neg (by simp [q])] at h
        rw [w32_s (by omega)] at ey; subst ey
        rw [w32_le (by omega) (by omega), Int.add_zero] at ex; subst ex
        exact ih (i + 1) a (by omega) (by omega) (by rw [Nat.zero_add] at h; exact h)
  exact L 3 0 0 rfl (by omega) (by rw [Nat.zero_add]; exact h)
theorem S_child : SIM G YX11_child YX12_child [vI a1, vI a2] := by
  intro d μ ⟨A, t, s, b, h⟩
  have hT := h.1.1
  have hM := h.1.2.1
  have hb := hM.2.1
  have hR : RR μ := ⟨A, t, s, b, h⟩
  have h8 := hT.2.2.2.1.1
  have e1 := h.1.2.2.1.1
  by_cases hy : 0 ≤ a1 ∧ a1 < (tw_nc A : Int)
  · obtain ⟨c, rfl⟩ : ∃ c : Nat, a1 = (c : Int) := ⟨a1.toNat, by omega⟩
    have hc8 : c < 8 := by omega
    obtain ⟨k3, k4, k5, k6, -⟩ := h.2.1.c hc8
    refine EX11_child (cl_child_y h hy ⟨fun _ => ?_, z1⟩)
    have M : ∀ (r : Int), (((a2 = 0) → (0 ≤ w32 ((w32 (8 * (μ 34 0 13))) + (c : Int)) ∧ w32 ((w32 (8 * (μ 34 0 13))) + (c : Int)) < 16) ∧ (μ 34 16 (w32 ((w32 (8 * (μ 34 0 13))) + (c : Int))).toNat = r ∧ RR μ)) ∧ ((a2 = 1) → (0 ≤ w32 ((w32 (8 * (μ 34 0 13))) + (c : Int)) ∧ w32 ((w32 (8 * (μ 34 0 13))) + (c : Int)) < 16) ∧ (μ 34 17 (w32 ((w32 (8 * (μ 34 0 13))) + (c : Int))).toNat = r ∧ RR μ)) ∧ ((a2 = 2) → (0 ≤ (c : Int) ∧ (c : Int) < 176) ∧ (μ 34 45 (c : Int).toNat = r ∧ RR μ)) ∧ ((a2 = 3) → (0 ≤ (c : Int) ∧ (c : Int) < 176) ∧ (μ 34 46 (c : Int).toNat = r ∧ RR μ)) ∧ ((a2 = 4) → (0 ≤ (c : Int) ∧ (c : Int) < 176) ∧ ((¬ (μ 34 47 (c : Int).toNat) = (-1)) → (1 = r ∧ RR μ)) ∧ ((μ 34 47 (c : Int).toNat = (-1)) → (0 = r ∧ RR μ))) ∧ ((a2 = 5) → (0 ≤ (c : Int) ∧ (c : Int) < 176) ∧ (μ 34 47 (c : Int).toNat = r ∧ RR μ)) ∧ ((a2 = 6) → c_i G (d + 99) YX12_has2 [vI (μ 34 49 0), vI (c : Int)] μ (fun r4 μ3 => ((r4 = 0) → (0 = r ∧ RR μ3)) ∧ ((¬ r4 = 0) → (1 = r ∧ RR μ3)))) ∧ (((a2 < 0 ∨ 6 < a2)) → ((-1) = r ∧ RR μ))) → c_i G (d + 100) YX12_child [vR 34 0, vI (c : Int), vI a2] μ (fun r2 μ2 => r2 = r ∧ RR μ2) := fun r hr => EX12_child (mo_child_y h hy ⟨fun _ => hr, z1⟩)
    have ew : w32 ((w32 (8 * (μ 34 0 13))) + (c : Int)) = ((8 * b + c : Nat) : Int) := by rw [hM.1]; exact w_8b (by omega) hc8
    rw [ew] at M
    simp only [Int.toNat_natCast] at M ⊢
    have n : ∀ {P : Prop} {k : Int}, a2 = k → (∀ j, j ≠ k → (a2 = j → P)) := fun e j hj z => absurd (z.symm.trans e) hj
    refine ⟨fun e => ⟨t, e1, hT.1, ⟨by omega, by omega⟩, M _ ⟨fun _ => ⟨⟨by omega, by omega⟩, ?_, hR⟩, n e _ (by decide), n e _ (by decide), n e _ (by decide), n e _ (by decide), n e _ (by decide), n e _ (by decide), fun z => by omega⟩⟩, fun e => ⟨t, e1, hT.1, ⟨by omega, by omega⟩, M _ ⟨n e _ (by decide), fun _ => ⟨⟨by omega, by omega⟩, ?_, hR⟩, n e _ (by decide), n e _ (by decide), n e _ (by decide), n e _ (by decide), n e _ (by decide), fun z => by omega⟩⟩, fun e => ⟨⟨by omega, by omega⟩, M _ ⟨n e _ (by decide), n e _ (by decide), fun _ => ⟨⟨by omega, by omega⟩, k3, hR⟩, n e _ (by decide), n e _ (by decide), n e _ (by decide), n e _ (by decide), fun z => by omega⟩⟩, fun e => ⟨⟨by omega, by omega⟩, M _ ⟨n e _ (by decide), n e _ (by decide), n e _ (by decide), fun _ => ⟨⟨by omega, by omega⟩, k4, hR⟩, n e _ (by decide), n e _ (by decide), n e _ (by decide), fun z => by omega⟩⟩, fun e => c_isFired (by decide) hc8 ?_, fun e => ⟨⟨by omega, by omega⟩, M _ ⟨n e _ (by decide), n e _ (by decide), n e _ (by decide), n e _ (by decide), n e _ (by decide), fun _ => ⟨⟨by omega, by omega⟩, k5, hR⟩, n e _ (by decide), fun z => by omega⟩⟩, fun e => ⟨⟨by omega, by omega⟩, M _ ⟨n e _ (by decide), n e _ (by decide), n e _ (by decide), n e _ (by decide), n e _ (by decide), n e _ (by decide), fun _ => ?_, fun z => by omega⟩⟩, fun e => M _ ⟨fun z => by omega, fun z => by omega, fun z => by omega, fun z => by omega, fun z => by omega, fun z => by omega, fun z => by omega, fun _ => ⟨rfl, hR⟩⟩⟩
    · rw [hM.clay (by omega), hT.clay (by omega)]
    · rw [hM.grit (by omega), hT.grit (by omega)]
    · rw [← k5]
      by_cases q : μ 34 47 c = -1
      · rw [if_pos q]
        exact ⟨fun _ => M _ ⟨n e _ (by decide), n e _ (by decide), n e _ (by decide), n e _ (by decide), fun _ => ⟨⟨by omega, by omega⟩, fun z => absurd q z, fun _ => ⟨rfl, hR⟩⟩, n e _ (by decide), n e _ (by decide), fun z => by omega⟩, z0⟩
      · rw [if_neg q]
        exact ⟨z1, fun _ => M _ ⟨n e _ (by decide), n e _ (by decide), n e _ (by decide), n e _ (by decide), fun _ => ⟨⟨by omega, by omega⟩, fun _ => ⟨rfl, hR⟩, fun z => absurd z q⟩, n e _ (by decide), n e _ (by decide), fun z => by omega⟩⟩
    · have ht := tb_i (x := μ 34 49 0) (k := c) (bt_s h.2.1.2.2) (by omega)
      refine EX12_has2 ⟨fun q => ⟨fun _ => ⟨?_, hR⟩, z0⟩, fun q => ⟨z1, fun _ => ⟨?_, hR⟩⟩⟩
      · rw [ht] at q; rw [← k6, if_neg q]
      · rw [ht] at q; rw [← k6, if_pos q]
  · exact EX11_child (cl_child_n h hy ⟨z0, fun _ => EX12_child (mo_child_n h hy ⟨z0, fun _ => ⟨rfl, hR⟩⟩)⟩)
theorem S_kiln : SIM G YX11_kiln YX12_kiln [vI a1, vI a2] := by
  intro d μ ⟨A, t, s, b, h⟩
  have hT := h.1.1
  have hM := h.1.2.1
  have hb := hM.2.1
  have hR : RR μ := ⟨A, t, s, b, h⟩
  have h3 := hT.2.2.2.1.2.1
  have e1 := h.1.2.2.1.1
  by_cases hy : 0 ≤ a1 ∧ a1 < (tw_nk A : Int)
  · obtain ⟨c, rfl⟩ : ∃ c : Nat, a1 = (c : Int) := ⟨a1.toNat, by omega⟩
    have hc3 : c < 3 := by omega
    have hcn : c < tw_nk A := by omega
    have k8 := h.2.1.k hc3
    have ew : w32 ((w32 (3 * (μ 34 0 13))) + (c : Int)) = ((3 * b + c : Nat) : Int) := by rw [hM.1]; exact w_3b (by omega) hc3
    refine EX11_kiln (cl_kiln_y h hy ⟨fun _ => ⟨fun e => ⟨t, e1, hT.1, ⟨by omega, by omega⟩, ?_⟩, fun e => c_countIn (by decide) ?_, fun e => ⟨⟨by omega, by omega⟩, ?_⟩, fun e => ⟨⟨by omega, by omega⟩, fun q => ?_, fun q => ?_⟩, fun e => ?_⟩, z1⟩)
    · refine EX12_kiln (mo_kiln_y h hy ⟨fun _ => ⟨fun _ => ?_, fun z => by omega, fun z => by omega, fun z => by omega, fun z => by omega⟩, z1⟩)
      rw [ew]
      simp only [Int.toNat_natCast]
      exact ⟨⟨by omega, by omega⟩, by rw [hM.room hcn, hT.room hcn], hR⟩
    · refine EX12_kiln (mo_kiln_y h hy ⟨fun _ => ⟨fun z => by omega, fun _ => cm_full (v := 0) hM (by decide) ⟨?_, hR⟩, fun z => by omega, fun z => by omega, fun z => by omega⟩, z1⟩)
      rw [h.2.1.cnt hT.2.2.2.1]
    · refine EX12_kiln (mo_kiln_y h hy ⟨fun _ => ⟨fun z => by omega, fun z => by omega, fun _ => ?_, fun z => by omega, fun z => by omega⟩, z1⟩)
      simp only [Int.toNat_natCast]
      exact ⟨⟨by omega, by omega⟩, k8, hR⟩
    · rw [Int.toNat_natCast] at q
      have hlit := (h.2.1.1.2.2.2.1 c hc3).1
      have hwk := h.2.1.sw
      refine c_burnt hT (by decide) hcn (by unfold sm; omega) hwk (fun μ1 o1 => ?_)
      have h1 := h.fS o1.S
      have h10 : μ1 10 = μ 10 := by funext b c; exact o1 10 b c (by decide)
      refine EX12_kiln (mo_kiln_y h1 hy ⟨fun _ => ⟨fun z => by omega, fun z => by omega, fun z => by omega, fun _ => ⟨⟨by omega, by omega⟩, fun _ => ?_, fun z => ?_⟩, fun z => by omega⟩, z1⟩)
      · have k81 := h1.2.1.k hc3
        have w1 := h1.2.1.w.1
        refine cm_burnt (v := 0) h1.1.2.1 (by decide) hcn ?_ ?_ (fun μ2 o2 => ⟨?_, A, t, s, b, h1.fS o2.S⟩)
        · rw [show 3 * 0 + c = c by omega, k81, h10]; unfold sm; omega
        · rw [w1, h10]; exact hwk
        · rw [h1.2.1.cnt hT.2.2.2.1, w1, show 3 * 0 + c = c by omega, k81, h10]
      · rw [Int.toNat_natCast, h1.2.1.k hc3, h10] at z; exact absurd z q
    · rw [Int.toNat_natCast] at q
      refine EX12_kiln (mo_kiln_y h hy ⟨fun _ => ⟨fun z => by omega, fun z => by omega, fun z => by omega, fun _ => ⟨⟨by omega, by omega⟩, fun z => ?_, fun _ => ⟨rfl, hR⟩⟩, fun z => by omega⟩, z1⟩)
      rw [Int.toNat_natCast, k8] at z; exact absurd q z
    · exact EX12_kiln (mo_kiln_y h hy ⟨fun _ => ⟨fun z => by omega, fun z => by omega, fun z => by omega, fun z => by omega, fun _ => ⟨rfl, hR⟩⟩, z1⟩)
  · exact EX11_kiln (cl_kiln_n h hy ⟨z0, fun _ => EX12_kiln (mo_kiln_n h hy ⟨z0, fun _ => ⟨rfl, hR⟩⟩)⟩)
def rgOf (A : m_T) (a a2 a3 : Int) : Prop := (0 ≤ a ∧ a < (tw_nc A : Int)) ∧ (0 ≤ a2 ∧ a2 ≤ 20) ∧ 0 ≤ a3 ∧ a3 ≤ 5
theorem mo_rg_y {d : Nat} {μ : m_M} {A : m_T} {t s b : Nat} {K : Int → m_M → Prop} (h : RA μ A t s b) (hy : rgOf A a1 a2 a3) (k : K 1 μ) : c_i G (d + 2) YX12_isRing [vR 34 0, vI a1, vI a2, vI a3] μ K :=
  EX12_isRing (mo_child_y h hy.1 ⟨z1, fun _ => mo_is_y hy.2.1 ⟨z1, fun _ => mo_is_y hy.2.2 ⟨z1, fun _ => k⟩⟩⟩)
theorem mo_rg_n {d : Nat} {μ : m_M} {A : m_T} {t s b : Nat} {K : Int → m_M → Prop} (h : RA μ A t s b) (hn : ¬ rgOf A a1 a2 a3) (k : K 0 μ) : c_i G (d + 2) YX12_isRing [vR 34 0, vI a1, vI a2, vI a3] μ K := by
  unfold rgOf at hn
  by_cases h1 : 0 ≤ a1 ∧ a1 < (tw_nc A : Int)
  · refine EX12_isRing (mo_child_y h h1 ⟨z1, fun _ => ?_⟩)
    by_cases h2 : 0 ≤ a2 ∧ a2 ≤ 20
    · exact mo_is_y h2 ⟨z1, fun _ => mo_is_n (by omega) ⟨fun _ => k, z0⟩⟩
    · exact mo_is_n h2 ⟨fun _ => k, z0⟩
  · exact EX12_isRing (mo_child_n h h1 ⟨fun _ => k, z0⟩)
theorem S_rings : SIM G YX11_rings YX12_rings [vI a1, vI a2, vI a3] := by
  intro d μ ⟨A, t, s, b, h⟩
  have hR : RR μ := ⟨A, t, s, b, h⟩
  by_cases hy : rgOf A a1 a2 a3
  · have hy' := hy
    unfold rgOf at hy'
    refine EX11_rings (cl_child_y h hy.1 ⟨z1, fun _ => cl_heat_y hy.2.1 ⟨z1, fun _ => cl_pl_y hy.2.2 ⟨fun _ => ?_, z1⟩⟩⟩)
    obtain ⟨c, rfl⟩ : ∃ c : Nat, a1 = (c : Int) := ⟨a1.toNat, by omega⟩
    refine c_temperOf h.1.1 (by omega) (by unfold sm; omega) (by omega) (by unfold sm; omega) h.2.1.sw (fun μ1 o1 => ?_)
    have h1 := h.fS o1.S
    have h10 : μ1 10 = μ 10 := by funext b c; exact o1 10 b c (by decide)
    have w1 := h1.2.1.w.1
    refine EX12_rings (mo_rg_y h1 hy ⟨z1, fun _ => cm_ring (v := 0) h1.1.2.1 (by decide) (by omega) (by unfold sm; omega) (by unfold sm; omega) (by rw [w1]; exact h1.2.1.sw) (fun μ2 o2 => ⟨?_, A, t, s, b, h1.fS o2.S⟩)⟩)
    rw [w1, h10]
  · have fin : c_i G (d + 100) YX12_rings [vR 34 0, vI a1, vI a2, vI a3] μ (fun r2 μ2 => r2 = -1 ∧ RR μ2) := EX12_rings (mo_rg_n h hy ⟨fun _ => ⟨rfl, hR⟩, z0⟩)
    unfold rgOf at hy
    by_cases h1 : 0 ≤ a1 ∧ a1 < (tw_nc A : Int)
    · refine EX11_rings (cl_child_y h h1 ⟨z1, fun _ => ?_⟩)
      by_cases h2 : 0 ≤ a2 ∧ a2 ≤ 20
      · exact cl_heat_y h2 ⟨z1, fun _ => cl_pl_n (by omega) ⟨z0, fun _ => fin⟩⟩
      · exact cl_heat_n h2 ⟨fun _ => fin, z0⟩
    · exact EX11_rings (cl_child_n h h1 ⟨fun _ => fin, z0⟩)
theorem cl_cracks {d : Nat} {μ : m_M} {A : m_T} {t s b : Nat} {K : Int → m_M → Prop} (h : RA μ A t s b) {c : Nat} (hy : rgOf A (c : Int) a2 a3) (k : ∀ μ1, off5 μ μ1 → K (if p_crk A c a2 a3 (μ 10 0 0) then 1 else 0) μ1) : c_i G (d + 7) YX11_cracks [vR 1 0, vI (c : Int), vI a2, vI a3] μ K := by
  have hy' := hy
  unfold rgOf at hy'
  refine EX11_cracks (cl_child_y h hy.1 ⟨z1, fun _ => cl_heat_y hy.2.1 ⟨z1, fun _ => cl_pl_y hy.2.2 ⟨fun _ => ?_, z1⟩⟩⟩)
  refine c_temperOf h.1.1 (by omega) (by unfold sm; omega) (by omega) (by unfold sm; omega) h.2.1.sw (fun μ1 o1 => ?_)
  have h10 : μ1 10 = μ 10 := by funext b c; exact o1 10 b c (by decide)
  rw [h10]
  refine c_isCracked (h.1.1.off o1) (by omega) (by unfold sm; omega) (by unfold sm; omega) h.2.1.sw rfl (fun μ2 o2 => ?_)
  have kk := k μ2 (o1.tr o2)
  by_cases q : p_crk A c a2 a3 (μ 10 0 0) = true
  · rw [if_pos q] at kk ⊢; exact ⟨z1, fun _ => kk⟩
  · rw [if_neg q] at kk ⊢; exact ⟨fun _ => kk, z0⟩
theorem cl_cracks_n {d : Nat} {μ : m_M} {A : m_T} {t s b : Nat} {K : Int → m_M → Prop} (h : RA μ A t s b) (hy : ¬ rgOf A a1 a2 a3) (k : K (-1) μ) : c_i G (d + 7) YX11_cracks [vR 1 0, vI a1, vI a2, vI a3] μ K := by
  unfold rgOf at hy
  by_cases h1 : 0 ≤ a1 ∧ a1 < (tw_nc A : Int)
  · refine EX11_cracks (cl_child_y h h1 ⟨z1, fun _ => ?_⟩)
    by_cases h2 : 0 ≤ a2 ∧ a2 ≤ 20
    · exact cl_heat_y h2 ⟨z1, fun _ => cl_pl_n (by omega) ⟨z0, fun _ => k⟩⟩
    · exact cl_heat_n h2 ⟨fun _ => k, z0⟩
  · exact EX11_cracks (cl_child_n h h1 ⟨fun _ => k, z0⟩)
theorem S_cracks : SIM G YX11_cracks YX12_cracks [vI a1, vI a2, vI a3] := by
  intro d μ ⟨A, t, s, b, h⟩
  have hR : RR μ := ⟨A, t, s, b, h⟩
  by_cases hy : rgOf A a1 a2 a3
  · have hy' := hy
    unfold rgOf at hy'
    obtain ⟨c, rfl⟩ : ∃ c : Nat, a1 = (c : Int) := ⟨a1.toNat, by omega⟩
    refine cl_cracks h hy (fun μ1 o1 => ?_)
    have h1 := h.fS o1.S
    have h10 : μ1 10 = μ 10 := by funext b c; exact o1 10 b c (by decide)
    have w1 := h1.2.1.w.1
    refine EX12_cracks (mo_rg_y h1 hy ⟨z1, fun _ => cm_crk (v := 0) h1.1.2.1 (by decide) (by omega) (by unfold sm; omega) (by unfold sm; omega) (by rw [w1]; exact h1.2.1.sw) (fun μ2 o2 => ?_)⟩)
    rw [w1, h10]
    have R2 : RR μ2 := ⟨A, t, s, b, h1.fS o2.S⟩
    by_cases q : p_crk A c a2 a3 (μ 10 0 0) = true
    · rw [if_pos q]; exact ⟨z1, fun _ => ⟨rfl, R2⟩⟩
    · rw [if_neg q]; exact ⟨fun _ => ⟨rfl, R2⟩, z0⟩
  · exact cl_cracks_n h hy (EX12_cracks (mo_rg_n h hy ⟨fun _ => ⟨rfl, hR⟩, z0⟩))
end S2
