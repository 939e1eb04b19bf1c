/-! ===== the face: small helpers on both sides ===== -/
def SIM (G : m_G) (Yc Ym : m_Y) (args : List m_V) : Prop := ∀ (d : Nat) (μ : m_M), RR μ → c_i G (d + 100) Yc (vR 1 0 :: args) μ (fun r μ1 => c_i G (d + 100) Ym (vR 34 0 :: args) μ1 (fun r2 μ2 => r2 = r ∧ RR μ2))
section HP
variable {G : m_G} {d : Nat} {μ : m_M} {A : m_T} {t s b : Nat} {a a2 a3 : Int} {K : Int → m_M → Prop}
theorem cl_child_y (h : RA μ A t s b) (hy : 0 ≤ a ∧ a < (tw_nc A : Int)) (k : K 1 μ) : c_i G (d + 1) YX11_isChild [vR 1 0, vI a] μ K :=
  EX11_isChild ⟨fun q => absurd q (by omega), fun _ => ⟨t, h.1.2.2.1.1, h.1.1.1, fun q => absurd q (by rw [h.1.1.nc]; omega), fun _ => k⟩⟩
theorem cl_child_n (h : RA μ A t s b) (hn : ¬ (0 ≤ a ∧ a < (tw_nc A : Int))) (k : K 0 μ) : c_i G (d + 1) YX11_isChild [vR 1 0, vI a] μ K :=
  EX11_isChild ⟨fun _ => k, fun q => ⟨t, h.1.2.2.1.1, h.1.1.1, fun _ => k, fun q => absurd q (by rw [h.1.1.nc]; omega)⟩⟩
theorem cl_kiln_y (h : RA μ A t s b) (hy : 0 ≤ a ∧ a < (tw_nk A : Int)) (k : K 1 μ) : c_i G (d + 1) YX11_isKiln [vR 1 0, vI a] μ K :=
  EX11_isKiln ⟨fun q => absurd q (by omega), fun _ => ⟨t, h.1.2.2.1.1, h.1.1.1, fun q => absurd q (by rw [h.1.1.nk]; omega), fun _ => k⟩⟩
theorem cl_kiln_n (h : RA μ A t s b) (hn : ¬ (0 ≤ a ∧ a < (tw_nk A : Int))) (k : K 0 μ) : c_i G (d + 1) YX11_isKiln [vR 1 0, vI a] μ K :=
  EX11_isKiln ⟨fun _ => k, fun q => ⟨t, h.1.2.2.1.1, h.1.1.1, fun _ => k, fun q => absurd q (by rw [h.1.1.nk]; omega)⟩⟩
theorem cl_heat_y (hy : 0 ≤ a ∧ a ≤ 20) (k : K 1 μ) : c_i G (d + 1) YX11_isHeat [vI a] μ K := EX11_isHeat ⟨fun q => absurd q (by omega), fun _ => ⟨fun q => absurd q (by omega), fun _ => k⟩⟩
theorem cl_heat_n (hy : ¬ (0 ≤ a ∧ a ≤ 20)) (k : K 0 μ) : c_i G (d + 1) YX11_isHeat [vI a] μ K := EX11_isHeat ⟨fun _ => k, fun _ => ⟨fun _ => k, fun q => absurd q (by omega)⟩⟩
theorem cl_pl_y (hy : 0 ≤ a ∧ a ≤ 5) (k : K 1 μ) : c_i G (d + 1) YX11_isPlace [vI a] μ K := EX11_isPlace ⟨fun q => absurd q (by omega), fun _ => ⟨fun q => absurd q (by omega), fun _ => k⟩⟩
theorem cl_pl_n (hy : ¬ (0 ≤ a ∧ a ≤ 5)) (k : K 0 μ) : c_i G (d + 1) YX11_isPlace [vI a] μ K := EX11_isPlace ⟨fun _ => k, fun _ => ⟨fun _ => k, fun q => absurd q (by omega)⟩⟩
theorem mo_child_y (h : RA μ A t s b) (hy : 0 ≤ a ∧ a < (tw_nc A : Int)) (k : K 1 μ) : c_i G (d + 1) YX12_isChild [vR 34 0, vI a] μ K := by
  have hM := h.1.2.1
  have hb := hM.2.1
  refine EX12_isChild ⟨fun q => absurd q (by omega), fun _ => ?_⟩
  rw [hM.1, Int.toNat_natCast, hM.nc]
  exact ⟨⟨by omega, by omega⟩, fun q => absurd q (by omega), fun _ => k⟩
theorem mo_child_n (h : RA μ A t s b) (hn : ¬ (0 ≤ a ∧ a < (tw_nc A : Int))) (k : K 0 μ) : c_i G (d + 1) YX12_isChild [vR 34 0, vI a] μ K := by
  have hM := h.1.2.1
  have hb := hM.2.1
  refine EX12_isChild ⟨fun _ => k, fun q => ?_⟩
  rw [hM.1, Int.toNat_natCast, hM.nc]
  exact ⟨⟨by omega, by omega⟩, fun _ => k, fun q => absurd q (by omega)⟩
theorem mo_kiln_y (h : RA μ A t s b) (hy : 0 ≤ a ∧ a < (tw_nk A : Int)) (k : K 1 μ) : c_i G (d + 1) YX12_isKiln [vR 34 0, vI a] μ K := by
  have hM := h.1.2.1
  have hb := hM.2.1
  refine EX12_isKiln ⟨fun q => absurd q (by omega), fun _ => ?_⟩
  rw [hM.1, Int.toNat_natCast, hM.nk]
  exact ⟨⟨by omega, by omega⟩, fun q => absurd q (by omega), fun _ => k⟩
theorem mo_kiln_n (h : RA μ A t s b) (hn : ¬ (0 ≤ a ∧ a < (tw_nk A : Int))) (k : K 0 μ) : c_i G (d + 1) YX12_isKiln [vR 34 0, vI a] μ K := by
  have hM := h.1.2.1
  have hb := hM.2.1
  refine EX12_isKiln ⟨fun _ => k, fun q => ?_⟩
  rw [hM.1, Int.toNat_natCast, hM.nk]
  exact ⟨⟨by omega, by omega⟩, fun _ => k, fun q => absurd q (by omega)⟩
theorem mo_is_y (hy : a2 ≤ a ∧ a ≤ a3) (k : K 1 μ) : c_i G (d + 1) YX12_is [vI a, vI a2, vI a3] μ K := EX12_is ⟨fun q => absurd q (by omega), fun _ => ⟨fun q => absurd q (by omega), fun _ => k⟩⟩
theorem mo_is_n (hy : ¬ (a2 ≤ a ∧ a ≤ a3)) (k : K 0 μ) : c_i G (d + 1) YX12_is [vI a, vI a2, vI a3] μ K := EX12_is ⟨fun _ => k, fun _ => ⟨fun _ => k, fun q => absurd q (by omega)⟩⟩
/-- whether a kiln has such a place -/
def plOf (A : m_T) (a a2 : Int) : Prop := (0 ≤ a ∧ a < (tw_nk A : Int)) ∧ 0 ≤ a2 ∧ a2 < tw_room A a.toNat
theorem z1 {P : Prop} : (1 : Int) = 0 → P := fun z => absurd z (by decide)
theorem z0 {P : Prop} : ¬ (0 : Int) = 0 → P := fun z => absurd rfl z
theorem cl_po_y (h : RA μ A t s b) (hy : plOf A a a2) (k : K 1 μ) : c_i G (d + 2) YX11_isPlaceOf [vR 1 0, vI a, vI a2] μ K := by
  have hk := h.1.1.2.2.2.1.2.1
  have hy' := hy
  unfold plOf at hy'
  have e : μ t 6 a.toNat = tw_room A a.toNat := h.1.1.room (by omega)
  exact EX11_isPlaceOf (cl_kiln_y h hy.1 ⟨z1, fun _ => ⟨fun q => absurd q (by omega), fun _ => ⟨t, h.1.2.2.1.1, h.1.1.1, ⟨by omega, by omega⟩, fun q => absurd q (by rw [e]; omega), fun _ => k⟩⟩⟩)
theorem cl_po_n (h : RA μ A t s b) (hn : ¬ plOf A a a2) (k : K 0 μ) : c_i G (d + 2) YX11_isPlaceOf [vR 1 0, vI a, vI a2] μ K := by
  have hk := h.1.1.2.2.2.1.2.1
  unfold plOf at hn
  by_cases hy : 0 ≤ a ∧ a < (tw_nk A : Int)
  · have e : μ t 6 a.toNat = tw_room A a.toNat := h.1.1.room (by omega)
    exact EX11_isPlaceOf (cl_kiln_y h hy ⟨z1, fun _ => ⟨fun _ => k, fun _ => ⟨t, h.1.2.2.1.1, h.1.1.1, ⟨by omega, by omega⟩, fun _ => k, fun q => absurd q (by rw [e]; omega)⟩⟩⟩)
  · exact EX11_isPlaceOf (cl_kiln_n h hy ⟨fun _ => k, z0⟩)
theorem mo_po_y (h : RA μ A t s b) (hy : plOf A a a2) (k : K 1 μ) : c_i G (d + 2) YX12_isPlaceOf [vR 34 0, vI a, vI a2] μ K := by
  have hk := h.1.1.2.2.2.1.2.1
  have hM := h.1.2.1
  have hb := hM.2.1
  have hy' := hy
  unfold plOf at hy'
  obtain ⟨q, rfl⟩ : ∃ q : Nat, a = (q : Int) := ⟨a.toNat, by omega⟩
  rw [Int.toNat_natCast] at hy'
  have hr := h.1.1.2.2.2.1.2.2.2.1 q (by omega)
  refine EX12_isPlaceOf (mo_kiln_y h hy.1 ⟨z1, fun _ => ?_⟩)
  rw [hM.1, w_3b (by omega) (by omega), Int.toNat_natCast, hM.room (by omega), w32_le (by omega) (by omega)]
  exact ⟨⟨by omega, by omega⟩, mo_is_y ⟨by omega, by omega⟩ ⟨z1, fun _ => k⟩⟩
theorem mo_po_n (h : RA μ A t s b) (hn : ¬ plOf A a a2) (k : K 0 μ) : c_i G (d + 2) YX12_isPlaceOf [vR 34 0, vI a, vI a2] μ K := by
  have hk := h.1.1.2.2.2.1.2.1
  have hM := h.1.2.1
  have hb := hM.2.1
  unfold plOf at hn
  by_cases hy : 0 ≤ a ∧ a < (tw_nk A : Int)
  · obtain ⟨q, rfl⟩ : ∃ q : Nat, a = (q : Int) := ⟨a.toNat, by omega⟩
    rw [Int.toNat_natCast] at hn
    have hr := h.1.1.2.2.2.1.2.2.2.1 q (by omega)
    refine EX12_isPlaceOf (mo_kiln_y h hy ⟨z1, fun _ => ?_⟩)
    rw [hM.1, w_3b (by omega) (by omega), Int.toNat_natCast, hM.room (by omega), w32_le (by omega) (by omega)]
    exact ⟨⟨by omega, by omega⟩, mo_is_n (by omega) ⟨fun _ => k, z0⟩⟩
  · exact EX12_isPlaceOf (mo_kiln_n h hy ⟨fun _ => k, z0⟩)
end HP
section NW
variable {μ : m_M} {A : m_T}
theorem R_lay.c (h : R_lay μ A 10 0) {c : Nat} (hc : c < 8) (hz : ¬ (tw_nc A = 0 ∧ tw_nk A = 0) := by omega) : μ 34 45 c = μ 10 3 c ∧ μ 34 46 c = μ 10 4 c ∧ μ 34 47 c = μ 10 5 c ∧ (if tb (μ 34 49 0) c then (1 : Int) else 0) = μ 10 6 c ∧ μ 34 48 c = μ 10 7 c := by
  have := h.2.1.2.1 c hc
  rw [mK_ne hz, mB3, mB4, mB5, mB6, mB7, Nat.mul_zero, Nat.zero_add] at this
  exact this
theorem R_lay.c6 (h : R_lay μ A 10 0) {c : Nat} (hc : c < 8) : (if tb (μ 34 49 0) c then (1 : Int) else 0) = μ 10 6 c := (h.2.1.2.1 c hc).2.2.2.1
theorem R_lay.k (h : R_lay μ A 10 0) {k : Nat} (hk : k < 3) : μ 34 50 k = μ 10 8 k := by
  have := h.2.1.2.2.1 k hk
  rw [mK8, Nat.mul_zero, Nat.zero_add] at this
  exact this
theorem R_lay.w (h : R_lay μ A 10 0) : μ 34 43 0 = μ 10 0 0 ∧ μ 34 44 0 = μ 10 0 1 ∧ μ 34 51 0 = μ 10 0 9 := h.2.1.1
theorem R_lay.kept (h : R_lay μ A 10 0) {i : Nat} (hi : (i : Int) < 4 * μ 10 0 9) : μ 34 52 i = μ 10 9 i := by
  have := h.2.1.2.2.2 i (by rw [h.2.1.1.2.2]; exact hi)
  rw [mK9, Nat.mul_zero, Nat.zero_add] at this
  exact this
theorem R_lay.fir (h : R_lay μ A 10 0) : 0 ≤ μ 10 0 9 ∧ μ 10 0 9 ≤ 8 := by
  have h9 := h.1.2.2.1
  have h8 : m_cnt (fun c => μ 10 5 c != -1) 0 8 ≤ 8 := m_cnt_le _ _ _
  omega
theorem R_lay.who (h : R_lay μ A 10 0) (hA : TA A) (k : Nat) (p : Int) : m_fst (fun c => μ 34 45 (8 * 0 + c) == (k : Int) && μ 34 46 (8 * 0 + c) == p) 0 (tw_nc A) = b_who (μ 10) k p := by
  by_cases z : tw_nc A = 0 ∧ tw_nk A = 0
  · rw [h.1.who0 z.1, z.1]; rfl
  have e := mB_who (M := μ 34) (v := 0) hA (by have := h.2.1.sy.BI h.1; rw [mK_ne z] at this; exact this) k p
  rw [e]
  have w := h.2.1.who k p
  rw [mK_ne z] at w
  exact w.symm
theorem R_lay.cnt (h : R_lay μ A 10 0) (hA : TA A) (k : Nat) : m_cnt (fun c => μ 34 45 (8 * 0 + c) == (k : Int)) 0 (tw_nc A) = b_cnt (μ 10) k := by
  by_cases z : tw_nc A = 0 ∧ tw_nk A = 0
  · rw [h.1.cnt0 z.1, z.1]; rfl
  have e := mB_cnt (M := μ 34) (v := 0) hA (by have := h.2.1.sy.BI h.1; rw [mK_ne z] at this; exact this) k
  rw [e]
  have w := h.2.1.cnt k
  rw [mK_ne z] at w
  exact w.symm
theorem R_lay.sw (h : R_lay μ A 10 0) : sm (μ 10 0 0) := by have := h.1.1; unfold sm; omega
end NW
section S1
variable {G : m_G} {a1 a2 a3 : Int}
theorem S_place : SIM G YX11_place YX12_place [vI a1, vI a2] := by
  intro d μ ⟨A, t, s, b, h⟩
  by_cases hy : plOf A a1 a2
  · refine EX11_place (cl_po_y h hy ⟨z1, fun _ => c_who (by decide) (EX12_place (mo_po_y h hy ⟨z1, fun _ => ?_⟩))⟩)
    obtain ⟨q, rfl⟩ : ∃ q : Nat, a1 = (q : Int) := ⟨a1.toNat, by have := hy.1; omega⟩
    refine cm_inPlace (v := 0) h.1.2.1 (by decide) ⟨?_, A, t, s, b, h⟩
    exact h.2.1.who h.1.1.2.2.2.1 q a2
  · exact EX11_place (cl_po_n h hy ⟨fun _ => EX12_place (mo_po_n h hy ⟨fun _ => ⟨rfl, A, t, s, b, h⟩, z0⟩), z0⟩)
theorem S_fault : SIM G YX11_fault YX12_fault [vI a1] := by
  intro d μ ⟨A, t, s, b, h⟩
  have hm := h.2.2.2.2.1.2.1
  refine EX11_fault ⟨fun e => ?_, fun e => ?_, fun e => ?_⟩
  · exact EX12_fault ⟨fun q => absurd e q, fun _ => ⟨hm.1, A, t, s, b, h⟩⟩
  · exact EX12_fault ⟨fun _ => ⟨fun q => absurd e q, fun _ => ⟨hm.2, A, t, s, b, h⟩⟩, fun q => by omega⟩
  · exact EX12_fault ⟨fun _ => ⟨fun _ => ⟨rfl, A, t, s, b, h⟩, fun q => absurd q e.2⟩, fun q => absurd q e.1⟩
theorem S_status : SIM G YX11_status YX12_status [vI a1] := by
  intro d μ ⟨A, t, s, b, h⟩
  have hm := h.2.2.2.2.1.2.2
  by_cases hy : 0 ≤ a1 ∧ a1 ≤ 5
  · refine EX11_status ⟨fun q => absurd q (by omega), fun _ => ⟨fun q => absurd q (by omega), fun _ => ⟨⟨by omega, by omega⟩, EX12_status (mo_is_y hy ⟨z1, fun _ => ⟨⟨by omega, by omega⟩, hm _ (by omega), A, t, s, b, h⟩⟩)⟩⟩⟩
  · have fin : c_i G (d + 100) YX12_status [vR 34 0, vI a1] μ (fun r2 μ2 => r2 = -1 ∧ RR μ2) := EX12_status (mo_is_n hy ⟨fun _ => ⟨rfl, A, t, s, b, h⟩, z0⟩)
    exact EX11_status ⟨fun _ => fin, fun _ => ⟨fun _ => fin, fun q => absurd q (by omega)⟩⟩
theorem S_octet : SIM G YX11_octet YX12_octet [vI a1] := by
  intro d μ ⟨A, t, s, b, h⟩
  obtain ⟨n, hn, e1, e2, hi⟩ := h.2.2.2.2.2.2.2.1
  have ew : w32 ((n : Int) - 1) = (n : Int) - 1 := w32_le (by omega) (by omega)
  by_cases hy : 0 ≤ a1 ∧ a1 ≤ (n : Int) - 1
  · refine EX11_octet ⟨fun q => absurd q (by omega), fun _ => ⟨fun q => absurd q (by omega), fun _ => ⟨⟨by omega, by omega⟩, EX12_octet ?_⟩⟩⟩
    rw [e2, ew]
    exact mo_is_y hy ⟨z1, fun _ => ⟨⟨by omega, by omega⟩, hi _ (by omega), A, t, s, b, h⟩⟩
  · have fin : c_i G (d + 100) YX12_octet [vR 34 0, vI a1] μ (fun r2 μ2 => r2 = -1 ∧ RR μ2) := by
      refine EX12_octet ?_
      rw [e2, ew]
      exact mo_is_n hy ⟨fun _ => ⟨rfl, A, t, s, b, h⟩, z0⟩
    exact EX11_octet ⟨fun _ => fin, fun _ => ⟨fun _ => fin, fun q => absurd q (by omega)⟩⟩
theorem S_kept : SIM G YX11_kept YX12_kept [vI a1, vI a2] := by
  intro d μ ⟨A, t, s, b, h⟩
  have hf := h.2.1.fir
  have hw := h.2.1.w
  have ew : w32 (μ 34 51 0 - 1) = μ 10 0 9 - 1 := by rw [hw.2.2]; exact w32_le (by omega) (by omega)
  by_cases hy : 0 ≤ a1 ∧ a1 ≤ μ 10 0 9 - 1
  · by_cases hy2 : 0 ≤ a2 ∧ a2 ≤ 3
    · have e1 : w32 (w32 (a1 * 4) + a2) = ((4 * a1.toNat + a2.toNat : Nat) : Int) := by rw [w32_le (z := a1 * 4) (by omega) (by omega), w32_le (by omega) (by omega)]; omega
      have e2 : w32 (w32 (4 * a1) + a2) = ((4 * a1.toNat + a2.toNat : Nat) : Int) := by rw [w32_le (z := 4 * a1) (by omega) (by omega), w32_le (by omega) (by omega)]; omega
      refine EX11_kept ⟨fun q => absurd q (by omega), fun _ => ⟨fun q => absurd q (by omega), fun _ => ⟨fun q => absurd q (by omega), fun _ => ⟨fun _ => ?_, fun q => absurd q (by omega)⟩⟩⟩⟩
      rw [e1, Int.toNat_natCast]
      refine ⟨⟨by omega, by omega⟩, EX12_kept ?_⟩
      rw [ew, e2]
      refine mo_is_y hy ⟨z1, fun _ => mo_is_y hy2 ⟨z1, fun _ => ?_⟩⟩
      rw [Int.toNat_natCast]
      exact ⟨⟨by omega, by omega⟩, h.2.1.kept (by omega), A, t, s, b, h⟩
    · have fin : c_i G (d + 100) YX12_kept [vR 34 0, vI a1, vI a2] μ (fun r2 μ2 => r2 = -1 ∧ RR μ2) := by
        refine EX12_kept ?_
        rw [ew]
        exact mo_is_y hy ⟨z1, fun _ => mo_is_n hy2 ⟨fun _ => ⟨rfl, A, t, s, b, h⟩, z0⟩⟩
      exact EX11_kept ⟨fun _ => fin, fun _ => ⟨fun _ => fin, fun _ => ⟨fun _ => fin, fun _ => ⟨fun q => absurd q (by omega), fun _ => fin⟩⟩⟩⟩
  · have fin : c_i G (d + 100) YX12_kept [vR 34 0, vI a1, vI a2] μ (fun r2 μ2 => r2 = -1 ∧ RR μ2) := by
      refine EX12_kept ?_
      rw [ew]
      exact mo_is_n hy ⟨fun _ => ⟨rfl, A, t, s, b, h⟩, z0⟩
    exact EX11_kept ⟨fun _ => fin, fun _ => ⟨fun _ => fin, fun q => absurd q (by omega)⟩⟩
end S1
