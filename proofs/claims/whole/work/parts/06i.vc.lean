set_option maxRecDepth 20000 in
theorem VX12_cracks_0 {G : m_G} {X : m_X} {d : Nat} {K : Int → m_M → Prop} (C : mC G X YX12_cracks (d + 1)) (R : r_i G X K) {μ : m_M} {a1 : Int} {a2 : Int} {a3 : Int}
    (h : c_i G d YX12_isRing [vR 34 0, vI a1, vI a2, vI a3] μ (fun r2 μ1 => ((r2 = 0) → K (-1) μ1) ∧ ((¬ r2 = 0) → c_i G d YX12_isCracking [vR 34 0, vI 0, vI a1, vI a2, vI a3] μ1 (fun r4 μ3 => ((r4 = 0) → K 0 μ3) ∧ ((¬ r4 = 0) → K 1 μ3))))) :
    mW G X YX12_cracks μ 0 [some (vR 34 0), some (vI a1), some (vI a2), some (vI a3)] [] := by
  refine m_aload_n C dX12_cracks_0 rfl ?_
  refine m_iload_n C dX12_cracks_1 rfl ?_
  refine m_iload_n C dX12_cracks_2 rfl ?_
  refine m_iload_n C dX12_cracks_3 rfl ?_
  refine f_callVi (As := [vI a1, vI a2, vI a3]) (st := []) C dX12_cracks_4 ml_KilnBenchModel_465 rfl (by decide) rfl rfl rfl (Nat.le_of_ble_eq_true rfl) h (fun r2 μ1 h => ?_)
  refine m_if_eq (tgt := 29) C dX12_cracks_7 (by decide) (fun c => ?_) (fun c => ?_)
  · have h := h.1 c
    refine m_iconst C dX12_cracks_29 (by unfold in32; omega) ?_
    exact f_iret C R rfl dX12_cracks_30 h
  · have h := h.2 c
    refine m_aload_n C dX12_cracks_10 rfl ?_
    refine m_iconst C dX12_cracks_11 (by unfold in32; omega) ?_
    refine m_iload_n C dX12_cracks_12 rfl ?_
    refine m_iload_n C dX12_cracks_13 rfl ?_
    refine m_iload_n C dX12_cracks_14 rfl ?_
    refine f_callVi (As := [vI 0, vI a1, vI a2, vI a3]) (st := []) C dX12_cracks_15 ml_KilnBenchModel_429 rfl (by decide) rfl rfl rfl (Nat.le_of_ble_eq_true rfl) h (fun r4 μ3 h => ?_)
    refine m_if_eq (tgt := 25) C dX12_cracks_18 (by decide) (fun c => ?_) (fun c => ?_)
    · have h := h.1 c
      refine m_iconst C dX12_cracks_25 (by unfold in32; omega) ?_
      refine m_goto (tgt := 30) C dX12_cracks_26 (by decide) ?_
      exact f_iret C R rfl dX12_cracks_30 h
    · have h := h.2 c
      refine m_iconst C dX12_cracks_21 (by unfold in32; omega) ?_
      refine m_goto (tgt := 30) C dX12_cracks_22 (by decide) ?_
      exact f_iret C R rfl dX12_cracks_30 h

set_option maxRecDepth 20000 in
theorem VX12_heats_0 {G : m_G} {X : m_X} {d : Nat} {K : Int → m_M → Prop} (C : mC G X YX12_heats (d + 1)) (R : r_i G X K) {μ : m_M} {a1 : Int} {a2 : Int} {a3 : Int} {a4 : Int}
    (h : c_i G d YX12_isRing [vR 34 0, vI a1, vI 0, vI a2] μ (fun r2 μ1 => ((¬ r2 = 0) → mW G X YX12_heats μ1 18 [some (vR 34 0), some (vI a1), some (vI a2), some (vI a3), some (vI a4), some (vI 0), some (vI 0)] []) ∧ ((r2 = 0) → K (-1) μ1))) :
    mW G X YX12_heats μ 0 [some (vR 34 0), some (vI a1), some (vI a2), some (vI a3), some (vI a4), none, none] [] := by
  refine m_aload_n C dX12_heats_0 rfl ?_
  refine m_iload_n C dX12_heats_1 rfl ?_
  refine m_iconst C dX12_heats_2 (by unfold in32; omega) ?_
  refine m_iload_n C dX12_heats_3 rfl ?_
  refine f_callVi (As := [vI a1, vI 0, vI a2]) (st := []) C dX12_heats_4 ml_KilnBenchModel_465 rfl (by decide) rfl rfl rfl (Nat.le_of_ble_eq_true rfl) h (fun r2 μ1 h => ?_)
  refine m_if_ne (tgt := 12) C dX12_heats_7 (by decide) (fun c => ?_) (fun c => ?_)
  · have h := h.1 c
    refine m_iconst C dX12_heats_12 (by unfold in32; omega) ?_
    refine o_istore [some (vR 34 0), some (vI a1), some (vI a2), some (vI a3), some (vI a4), some (vI 0), none] C dX12_heats_13 (by decide) rfl ?_
    refine m_iconst C dX12_heats_15 (by unfold in32; omega) ?_
    refine o_istore [some (vR 34 0), some (vI a1), some (vI a2), some (vI a3), some (vI a4), some (vI 0), some (vI 0)] C dX12_heats_16 (by decide) rfl ?_
    exact h
  · have h := h.2 c
    refine m_iconst C dX12_heats_10 (by unfold in32; omega) ?_
    exact f_iret C R rfl dX12_heats_11 h

set_option maxRecDepth 20000 in
theorem VX12_heats_18 {G : m_G} {X : m_X} {d : Nat} {K : Int → m_M → Prop} (C : mC G X YX12_heats (d + 1)) (R : r_i G X K) {μ : m_M} {a1 : Int} {a2 : Int} {a3 : Int} {a4 : Int} {l5 : Int} {l6 : Int}
    (h : ((20 < l6) → K l5 μ) ∧ ((¬ 20 < l6) → c_i G d YX12_ring [vR 34 0, vI 0, vI a1, vI l6, vI a2] μ (fun r2 μ1 => c_i G d YX12_is [vI r2, vI a3, vI a4] μ1 (fun r4 μ3 => ((r4 = 0) → ∀ x5 : Int, x5 = i_or l5 0 → ∀ x6 : Int, x6 = w32 (l6 + 1) → mW G X YX12_heats μ3 18 [some (vR 34 0), some (vI a1), some (vI a2), some (vI a3), some (vI a4), some (vI x5), some (vI x6)] []) ∧ ((¬ r4 = 0) → c_i G d YX12_isCracking [vR 34 0, vI 0, vI a1, vI l6, vI a2] μ3 (fun r8 μ7 => ((¬ r8 = 0) → ∀ x9 : Int, x9 = i_or l5 0 → ∀ x10 : Int, x10 = w32 (l6 + 1) → mW G X YX12_heats μ7 18 [some (vR 34 0), some (vI a1), some (vI a2), some (vI a3), some (vI a4), some (vI x9), some (vI x10)] []) ∧ ((r8 = 0) → ∀ x11 : Int, x11 = i_or l5 (i_shl 1 l6) → ∀ x12 : Int, x12 = w32 (l6 + 1) → mW G X YX12_heats μ7 18 [some (vR 34 0), some (vI a1), some (vI a2), some (vI a3), some (vI a4), some (vI x11), some (vI x12)] []))))))) :
    mW G X YX12_heats μ 18 [some (vR 34 0), some (vI a1), some (vI a2), some (vI a3), some (vI a4), some (vI l5), some (vI l6)] [] := by
  refine m_iload C dX12_heats_18 rfl ?_
  refine m_bipush C dX12_heats_20 (by omega) ?_
  refine m_icmp_gt (tgt := 74) C dX12_heats_22 (by decide) (fun c => ?_) (fun c => ?_)
  · have h := h.1 c
    refine m_iload C dX12_heats_74 rfl ?_
    exact f_iret C R rfl dX12_heats_76 h
  · have h := h.2 c
    refine m_iload C dX12_heats_25 rfl ?_
    refine m_aload_n C dX12_heats_27 rfl ?_
    refine m_iconst C dX12_heats_28 (by unfold in32; omega) ?_
    refine m_iload_n C dX12_heats_29 rfl ?_
    refine m_iload C dX12_heats_30 rfl ?_
    refine m_iload_n C dX12_heats_32 rfl ?_
    refine f_callVi (As := [vI 0, vI a1, vI l6, vI a2]) (st := [vI l5]) C dX12_heats_33 ml_KilnBenchModel_418 rfl (by decide) rfl rfl rfl (Nat.le_of_ble_eq_true rfl) h (fun r2 μ1 h => ?_)
    refine m_iload_n C dX12_heats_36 rfl ?_
    refine m_iload C dX12_heats_37 rfl ?_
    refine f_callSi (As := [vI r2, vI a3, vI a4]) (st := [vI l5]) C dX12_heats_39 ml_KilnBenchModel_296 rfl rfl (Nat.le_of_ble_eq_true rfl) h (fun r4 μ3 h => ?_)
    refine m_if_eq (tgt := 64) C dX12_heats_42 (by decide) (fun c => ?_) (fun c => ?_)
    · have h := h.1 c
      refine m_iconst C dX12_heats_64 (by unfold in32; omega) ?_
      refine m_ior C dX12_heats_65 ?_
      refine n_istore (fun x5 => [some (vR 34 0), some (vI a1), some (vI a2), some (vI a3), some (vI a4), some (vI x5), some (vI l6)]) C dX12_heats_66 (by decide) (fun _ => rfl) (fun x5 ex5 => ?_)
      have h := h x5 ex5
      refine n_iinc (fun x6 => [some (vR 34 0), some (vI a1), some (vI a2), some (vI a3), some (vI a4), some (vI x5), some (vI x6)]) C dX12_heats_68 rfl (by decide) (fun _ => rfl) (fun x6 ex6 => ?_)
      have h := h x6 ex6
      refine m_goto (tgt := 18) C dX12_heats_71 (by decide) ?_
      exact h
    · have h := h.2 c
      refine m_aload_n C dX12_heats_45 rfl ?_
      refine m_iconst C dX12_heats_46 (by unfold in32; omega) ?_
      refine m_iload_n C dX12_heats_47 rfl ?_
      refine m_iload C dX12_heats_48 rfl ?_
      refine m_iload_n C dX12_heats_50 rfl ?_
      refine f_callVi (As := [vI 0, vI a1, vI l6, vI a2]) (st := [vI l5]) C dX12_heats_51 ml_KilnBenchModel_429 rfl (by decide) rfl rfl rfl (Nat.le_of_ble_eq_true rfl) h (fun r8 μ7 h => ?_)
      refine m_if_ne (tgt := 64) C dX12_heats_54 (by decide) (fun c => ?_) (fun c => ?_)
      · have h := h.1 c
        refine m_iconst C dX12_heats_64 (by unfold in32; omega) ?_
        refine m_ior C dX12_heats_65 ?_
        refine n_istore (fun x9 => [some (vR 34 0), some (vI a1), some (vI a2), some (vI a3), some (vI a4), some (vI x9), some (vI l6)]) C dX12_heats_66 (by decide) (fun _ => rfl) (fun x9 ex9 => ?_)
        have h := h x9 ex9
        refine n_iinc (fun x10 => [some (vR 34 0), some (vI a1), some (vI a2), some (vI a3), some (vI a4), some (vI x9), some (vI x10)]) C dX12_heats_68 rfl (by decide) (fun _ => rfl) (fun x10 ex10 => ?_)
        have h := h x10 ex10
        refine m_goto (tgt := 18) C dX12_heats_71 (by decide) ?_
        exact h
      · have h := h.2 c
        refine m_iconst C dX12_heats_57 (by unfold in32; omega) ?_
        refine m_iload C dX12_heats_58 rfl ?_
        refine m_ishl C dX12_heats_60 ?_
        refine m_goto (tgt := 65) C dX12_heats_61 (by decide) ?_
        refine m_ior C dX12_heats_65 ?_
        refine n_istore (fun x11 => [some (vR 34 0), some (vI a1), some (vI a2), some (vI a3), some (vI a4), some (vI x11), some (vI l6)]) C dX12_heats_66 (by decide) (fun _ => rfl) (fun x11 ex11 => ?_)
        have h := h x11 ex11
        refine n_iinc (fun x12 => [some (vR 34 0), some (vI a1), some (vI a2), some (vI a3), some (vI a4), some (vI x11), some (vI x12)]) C dX12_heats_68 rfl (by decide) (fun _ => rfl) (fun x12 ex12 => ?_)
        have h := h x12 ex12
        refine m_goto (tgt := 18) C dX12_heats_71 (by decide) ?_
        exact h

set_option maxRecDepth 20000 in
theorem VX12_sumOf_0 {G : m_G} {X : m_X} {d : Nat} {K : Int → m_M → Prop} (C : mC G X YX12_sumOf (d + 1)) (R : r_i G X K) {μ : m_M} {a1 : Int} {a2 : Int}
    (h : (0 ≤ a1 ∧ a1 < 7) ∧ ∀ μ2 : m_M, μ2 = m_up μ 34 59 a1.toNat (-1) → mW G X YX12_sumOf μ2 12 [some (vR 34 0), some (vI a1), some (vI a2), some (vI 0), some (vI 0)] []) :
    mW G X YX12_sumOf μ 0 [some (vR 34 0), some (vI a1), some (vI a2), none, none] [] := by
  refine m_iconst C dX12_sumOf_0 (by unfold in32; omega) ?_
  refine o_istore_n [some (vR 34 0), some (vI a1), some (vI a2), some (vI 0), none] C dX12_sumOf_1 (by decide) rfl ?_
  refine m_aload_n C dX12_sumOf_2 rfl ?_
  refine f_getA C dX12_sumOf_3 fl_KilnBenchModel_189 rfl (by decide) (by decide) (by decide) (by decide) ?_
  refine m_iload_n C dX12_sumOf_6 rfl ?_
  refine m_iconst C dX12_sumOf_7 (by unfold in32; omega) ?_
  obtain ⟨hb, h⟩ := h
  refine f_iast C dX12_sumOf_8 (m_arO (a := 0) (len := 7) rfl rfl) (by decide) hb ?_
  refine n_mem (fun μ2 eμ2 => ?_)
  have h := h μ2 eμ2
  refine m_iconst C dX12_sumOf_9 (by unfold in32; omega) ?_
  refine o_istore [some (vR 34 0), some (vI a1), some (vI a2), some (vI 0), some (vI 0)] C dX12_sumOf_10 (by decide) rfl ?_
  exact h

set_option maxRecDepth 20000 in
theorem VX12_sumOf_12 {G : m_G} {X : m_X} {d : Nat} {K : Int → m_M → Prop} (C : mC G X YX12_sumOf (d + 1)) (R : r_i G X K) {μ : m_M} {a1 : Int} {a2 : Int} {l3 : Int} {l4 : Int}
    (h : ((a1 ≤ l4) → K l3 μ) ∧ ((¬ a1 ≤ l4) → (0 ≤ l4 ∧ l4 < 7) ∧ ((¬ (μ 34 59 l4.toNat) = (-1)) → (0 ≤ l4 ∧ l4 < 7) ∧ c_i G d YX12_isCracking [vR 34 0, vI 0, vI (μ 34 59 l4.toNat), vI a2, vI l4] μ (fun r2 μ1 => ((r2 = 0) → (0 ≤ w32 (l4 + 1) ∧ w32 (l4 + 1) < 7) ∧ ((μ1 34 59 (w32 (l4 + 1)).toNat = (-1)) → (0 ≤ l4 ∧ l4 < 7) ∧ c_i G d YX12_ring [vR 34 0, vI 0, vI (μ1 34 59 l4.toNat), vI a2, vI l4] μ1 (fun r4 μ3 => ∀ x5 : Int, x5 = w32 (l3 + r4) → ∀ x6 : Int, x6 = w32 (l4 + 1) → mW G X YX12_sumOf μ3 12 [some (vR 34 0), some (vI a1), some (vI a2), some (vI x5), some (vI x6)] [])) ∧ ((¬ μ1 34 59 (w32 (l4 + 1)).toNat = (-1)) → (0 ≤ l4 ∧ l4 < 7) ∧ (0 ≤ w32 (l4 + 1) ∧ w32 (l4 + 1) < 7) ∧ c_i G d YX12_isSticking [vR 34 0, vI 0, vI (μ1 34 59 l4.toNat), vI (μ1 34 59 (w32 (l4 + 1)).toNat), vI a2, vI l4] μ1 (fun r8 μ7 => ((r8 = 0) → (0 ≤ l4 ∧ l4 < 7) ∧ c_i G d YX12_ring [vR 34 0, vI 0, vI (μ7 34 59 l4.toNat), vI a2, vI l4] μ7 (fun r10 μ9 => ∀ x11 : Int, x11 = w32 (l3 + r10) → ∀ x12 : Int, x12 = w32 (l4 + 1) → mW G X YX12_sumOf μ9 12 [some (vR 34 0), some (vI a1), some (vI a2), some (vI x11), some (vI x12)] [])) ∧ ((¬ r8 = 0) → K (-1) μ7)))) ∧ ((¬ r2 = 0) → K (-1) μ1))) ∧ ((μ 34 59 l4.toNat = (-1)) → ∀ x13 : Int, x13 = w32 (l4 + 1) → mW G X YX12_sumOf μ 12 [some (vR 34 0), some (vI a1), some (vI a2), some (vI l3), some (vI x13)] []))) :
    mW G X YX12_sumOf μ 12 [some (vR 34 0), some (vI a1), some (vI a2), some (vI l3), some (vI l4)] [] := by
  refine m_iload C dX12_sumOf_12 rfl ?_
  refine m_iload_n C dX12_sumOf_14 rfl ?_
  refine m_icmp_ge (tgt := 118) C dX12_sumOf_15 (by decide) (fun c => ?_) (fun c => ?_)
  · have h := h.1 c
    refine m_iload_n C dX12_sumOf_118 rfl ?_
    exact f_iret C R rfl dX12_sumOf_119 h
  · have h := h.2 c
    refine m_aload_n C dX12_sumOf_18 rfl ?_
    refine f_getA C dX12_sumOf_19 fl_KilnBenchModel_189 rfl (by decide) (by decide) (by decide) (by decide) ?_
    refine m_iload C dX12_sumOf_22 rfl ?_
    obtain ⟨hb, h⟩ := h
    refine f_iald C dX12_sumOf_24 (m_arO (a := 0) (len := 7) rfl rfl) (by decide) hb ?_
    refine m_iconst C dX12_sumOf_25 (by unfold in32; omega) ?_
    refine m_icmp_ne (tgt := 32) C dX12_sumOf_26 (by decide) (fun c => ?_) (fun c => ?_)
    · have h := h.1 c
      refine m_aload_n C dX12_sumOf_32 rfl ?_
      refine m_iconst C dX12_sumOf_33 (by unfold in32; omega) ?_
      refine m_aload_n C dX12_sumOf_34 rfl ?_
      refine f_getA C dX12_sumOf_35 fl_KilnBenchModel_189 rfl (by decide) (by decide) (by decide) (by decide) ?_
      refine m_iload C dX12_sumOf_38 rfl ?_
      obtain ⟨hb, h⟩ := h
      refine f_iald C dX12_sumOf_40 (m_arO (a := 0) (len := 7) rfl rfl) (by decide) hb ?_
      refine m_iload_n C dX12_sumOf_41 rfl ?_
      refine m_iload C dX12_sumOf_42 rfl ?_
      refine f_callVi (As := [vI 0, vI (μ 34 59 l4.toNat), vI a2, vI l4]) (st := []) C dX12_sumOf_44 ml_KilnBenchModel_429 rfl (by decide) rfl rfl rfl (Nat.le_of_ble_eq_true rfl) h (fun r2 μ1 h => ?_)
      refine m_if_eq (tgt := 52) C dX12_sumOf_47 (by decide) (fun c => ?_) (fun c => ?_)
      · have h := h.1 c
        refine m_aload_n C dX12_sumOf_52 rfl ?_
        refine f_getA C dX12_sumOf_53 fl_KilnBenchModel_189 rfl (by decide) (by decide) (by decide) (by decide) ?_
        refine m_iload C dX12_sumOf_56 rfl ?_
        refine m_iconst C dX12_sumOf_58 (by unfold in32; omega) ?_
        refine m_iadd C dX12_sumOf_59 ?_
        obtain ⟨hb, h⟩ := h
        refine f_iald C dX12_sumOf_60 (m_arO (a := 0) (len := 7) rfl rfl) (by decide) hb ?_
        refine m_iconst C dX12_sumOf_61 (by unfold in32; omega) ?_
        refine m_icmp_eq (tgt := 94) C dX12_sumOf_62 (by decide) (fun c => ?_) (fun c => ?_)
        · have h := h.1 c
          refine m_iload_n C dX12_sumOf_94 rfl ?_
          refine m_aload_n C dX12_sumOf_95 rfl ?_
          refine m_iconst C dX12_sumOf_96 (by unfold in32; omega) ?_
          refine m_aload_n C dX12_sumOf_97 rfl ?_
          refine f_getA C dX12_sumOf_98 fl_KilnBenchModel_189 rfl (by decide) (by decide) (by decide) (by decide) ?_
          refine m_iload C dX12_sumOf_101 rfl ?_
          obtain ⟨hb, h⟩ := h
          refine f_iald C dX12_sumOf_103 (m_arO (a := 0) (len := 7) rfl rfl) (by decide) hb ?_
          refine m_iload_n C dX12_sumOf_104 rfl ?_
          refine m_iload C dX12_sumOf_105 rfl ?_
          refine f_callVi (As := [vI 0, vI (μ1 34 59 l4.toNat), vI a2, vI l4]) (st := [vI l3]) C dX12_sumOf_107 ml_KilnBenchModel_418 rfl (by decide) rfl rfl rfl (Nat.le_of_ble_eq_true rfl) h (fun r4 μ3 h => ?_)
          refine m_iadd C dX12_sumOf_110 ?_
          refine n_istore_n (fun x5 => [some (vR 34 0), some (vI a1), some (vI a2), some (vI x5), some (vI l4)]) C dX12_sumOf_111 (by decide) (fun _ => rfl) (fun x5 ex5 => ?_)
          have h := h x5 ex5
          refine n_iinc (fun x6 => [some (vR 34 0), some (vI a1), some (vI a2), some (vI x5), some (vI x6)]) C dX12_sumOf_112 rfl (by decide) (fun _ => rfl) (fun x6 ex6 => ?_)
          have h := h x6 ex6
          refine m_goto (tgt := 12) C dX12_sumOf_115 (by decide) ?_
          exact h
        · have h := h.2 c
          refine m_aload_n C dX12_sumOf_65 rfl ?_
          refine m_iconst C dX12_sumOf_66 (by unfold in32; omega) ?_
          refine m_aload_n C dX12_sumOf_67 rfl ?_
          refine f_getA C dX12_sumOf_68 fl_KilnBenchModel_189 rfl (by decide) (by decide) (by decide) (by decide) ?_
          refine m_iload C dX12_sumOf_71 rfl ?_
          obtain ⟨hb, h⟩ := h
          refine f_iald C dX12_sumOf_73 (m_arO (a := 0) (len := 7) rfl rfl) (by decide) hb ?_
          refine m_aload_n C dX12_sumOf_74 rfl ?_
          refine f_getA C dX12_sumOf_75 fl_KilnBenchModel_189 rfl (by decide) (by decide) (by decide) (by decide) ?_
          refine m_iload C dX12_sumOf_78 rfl ?_
          refine m_iconst C dX12_sumOf_80 (by unfold in32; omega) ?_
          refine m_iadd C dX12_sumOf_81 ?_
          obtain ⟨hb, h⟩ := h
          refine f_iald C dX12_sumOf_82 (m_arO (a := 0) (len := 7) rfl rfl) (by decide) hb ?_
          refine m_iload_n C dX12_sumOf_83 rfl ?_
          refine m_iload C dX12_sumOf_84 rfl ?_
          refine f_callVi (As := [vI 0, vI (μ1 34 59 l4.toNat), vI (μ1 34 59 (w32 (l4 + 1)).toNat), vI a2, vI l4]) (st := []) C dX12_sumOf_86 ml_KilnBenchModel_433 rfl (by decide) rfl rfl rfl (Nat.le_of_ble_eq_true rfl) h (fun r8 μ7 h => ?_)
          refine m_if_eq (tgt := 94) C dX12_sumOf_89 (by decide) (fun c => ?_) (fun c => ?_)
          · have h := h.1 c
            refine m_iload_n C dX12_sumOf_94 rfl ?_
            refine m_aload_n C dX12_sumOf_95 rfl ?_
            refine m_iconst C dX12_sumOf_96 (by unfold in32; omega) ?_
            refine m_aload_n C dX12_sumOf_97 rfl ?_
            refine f_getA C dX12_sumOf_98 fl_KilnBenchModel_189 rfl (by decide) (by decide) (by decide) (by decide) ?_
            refine m_iload C dX12_sumOf_101 rfl ?_
            obtain ⟨hb, h⟩ := h
            refine f_iald C dX12_sumOf_103 (m_arO (a := 0) (len := 7) rfl rfl) (by decide) hb ?_
            refine m_iload_n C dX12_sumOf_104 rfl ?_
            refine m_iload C dX12_sumOf_105 rfl ?_
            refine f_callVi (As := [vI 0, vI (μ7 34 59 l4.toNat), vI a2, vI l4]) (st := [vI l3]) C dX12_sumOf_107 ml_KilnBenchModel_418 rfl (by decide) rfl rfl rfl (Nat.le_of_ble_eq_true rfl) h (fun r10 μ9 h => ?_)
            refine m_iadd C dX12_sumOf_110 ?_
            refine n_istore_n (fun x11 => [some (vR 34 0), some (vI a1), some (vI a2), some (vI x11), some (vI l4)]) C dX12_sumOf_111 (by decide) (fun _ => rfl) (fun x11 ex11 => ?_)
            have h := h x11 ex11
            refine n_iinc (fun x12 => [some (vR 34 0), some (vI a1), some (vI a2), some (vI x11), some (vI x12)]) C dX12_sumOf_112 rfl (by decide) (fun _ => rfl) (fun x12 ex12 => ?_)
            have h := h x12 ex12
            refine m_goto (tgt := 12) C dX12_sumOf_115 (by decide) ?_
            exact h
          · have h := h.2 c
            refine m_iconst C dX12_sumOf_92 (by unfold in32; omega) ?_
            exact f_iret C R rfl dX12_sumOf_93 h
      · have h := h.2 c
        refine m_iconst C dX12_sumOf_50 (by unfold in32; omega) ?_
        exact f_iret C R rfl dX12_sumOf_51 h
    · have h := h.2 c
      refine m_goto (tgt := 112) C dX12_sumOf_29 (by decide) ?_
      refine n_iinc (fun x13 => [some (vR 34 0), some (vI a1), some (vI a2), some (vI l3), some (vI x13)]) C dX12_sumOf_112 rfl (by decide) (fun _ => rfl) (fun x13 ex13 => ?_)
      have h := h x13 ex13
      refine m_goto (tgt := 12) C dX12_sumOf_115 (by decide) ?_
      exact h

set_option maxRecDepth 20000 in
theorem VX12_safe_0 {G : m_G} {X : m_X} {d : Nat} {K : Int → m_M → Prop} (C : mC G X YX12_safe (d + 1)) (R : r_i G X K) {μ : m_M} {a1 : Int}
    (h : c_i G d YX12_isKiln [vR 34 0, vI a1] μ (fun r2 μ1 => ((r2 = 0) → K (-1) μ1) ∧ ((¬ r2 = 0) → c_i G d YX12_full [vR 34 0, vI 0, vI a1] μ1 (fun r4 μ3 => ((¬ r4 = 0) → (0 ≤ w32 ((w32 (3 * (μ3 34 0 13))) + a1) ∧ w32 ((w32 (3 * (μ3 34 0 13))) + a1) < 6) ∧ ∀ x5 : Int, x5 = μ3 34 19 (w32 ((w32 (3 * (μ3 34 0 13))) + a1)).toNat → mW G X YX12_safe μ3 35 [some (vR 34 0), some (vI a1), some (vI x5), some (vI 0)] []) ∧ ((r4 = 0) → K (-1) μ3))))) :
    mW G X YX12_safe μ 0 [some (vR 34 0), some (vI a1), none, none] [] := by
  refine m_aload_n C dX12_safe_0 rfl ?_
  refine m_iload_n C dX12_safe_1 rfl ?_
  refine f_callVi (As := [vI a1]) (st := []) C dX12_safe_2 ml_KilnBenchModel_447 rfl (by decide) rfl rfl rfl (Nat.le_of_ble_eq_true rfl) h (fun r2 μ1 h => ?_)
  refine m_if_eq (tgt := 17) C dX12_safe_5 (by decide) (fun c => ?_) (fun c => ?_)
  · have h := h.1 c
    refine m_iconst C dX12_safe_17 (by unfold in32; omega) ?_
    exact f_iret C R rfl dX12_safe_18 h
  · have h := h.2 c
    refine m_aload_n C dX12_safe_8 rfl ?_
    refine m_iconst C dX12_safe_9 (by unfold in32; omega) ?_
    refine m_iload_n C dX12_safe_10 rfl ?_
    refine f_callVi (As := [vI 0, vI a1]) (st := []) C dX12_safe_11 ml_KilnBenchModel_422 rfl (by decide) rfl rfl rfl (Nat.le_of_ble_eq_true rfl) h (fun r4 μ3 h => ?_)
    refine m_if_ne (tgt := 19) C dX12_safe_14 (by decide) (fun c => ?_) (fun c => ?_)
    · have h := h.1 c
      refine m_aload_n C dX12_safe_19 rfl ?_
      refine f_getA C dX12_safe_20 fl_KilnBenchModel_66 rfl (by decide) (by decide) (by decide) (by decide) ?_
      refine m_iconst C dX12_safe_23 (by unfold in32; omega) ?_
      refine m_aload_n C dX12_safe_24 rfl ?_
      refine f_getI C dX12_safe_25 fl_KilnBenchModel_51 rfl (by decide) (by decide) ?_
      refine m_imul C dX12_safe_28 ?_
      refine m_iload_n C dX12_safe_29 rfl ?_
      refine m_iadd C dX12_safe_30 ?_
      obtain ⟨hb, h⟩ := h
      refine f_iald C dX12_safe_31 (m_arO (a := 0) (len := 6) rfl rfl) (by decide) hb ?_
      refine n_istore_n (fun x5 => [some (vR 34 0), some (vI a1), some (vI x5), none]) C dX12_safe_32 (by decide) (fun _ => rfl) (fun x5 ex5 => ?_)
      have h := h x5 ex5
      refine m_iconst C dX12_safe_33 (by unfold in32; omega) ?_
      refine o_istore_n [some (vR 34 0), some (vI a1), some (vI x5), some (vI 0)] C dX12_safe_34 (by decide) rfl ?_
      exact h
    · have h := h.2 c
      refine m_iconst C dX12_safe_17 (by unfold in32; omega) ?_
      exact f_iret C R rfl dX12_safe_18 h

set_option maxRecDepth 20000 in
theorem VX12_safe_35 {G : m_G} {X : m_X} {d : Nat} {K : Int → m_M → Prop} (C : mC G X YX12_safe (d + 1)) (R : r_i G X K) {μ : m_M} {a1 : Int} {l2 : Int} {l3 : Int}
    (h : ((l2 ≤ l3) → mW G X YX12_safe μ 62 [some (vR 34 0), some (vI a1), some (vI l2), some (vI 20)] []) ∧ ((¬ l2 ≤ l3) → c_i G d YX12_inPlace [vR 34 0, vI 0, vI a1, vI l3] μ (fun r3 μ2 => (0 ≤ l3 ∧ l3 < 7) ∧ ∀ μ4 : m_M, μ4 = m_up μ2 34 59 l3.toNat r3 → ∀ x5 : Int, x5 = w32 (l3 + 1) → mW G X YX12_safe μ4 35 [some (vR 34 0), some (vI a1), some (vI l2), some (vI x5)] []))) :
    mW G X YX12_safe μ 35 [some (vR 34 0), some (vI a1), some (vI l2), some (vI l3)] [] := by
  refine m_iload_n C dX12_safe_35 rfl ?_
  refine m_iload_n C dX12_safe_36 rfl ?_
  refine m_icmp_ge (tgt := 59) C dX12_safe_37 (by decide) (fun c => ?_) (fun c => ?_)
  · have h := h.1 c
    refine m_bipush C dX12_safe_59 (by omega) ?_
    refine o_istore_n [some (vR 34 0), some (vI a1), some (vI l2), some (vI 20)] C dX12_safe_61 (by decide) rfl ?_
    exact h
  · have h := h.2 c
    refine m_aload_n C dX12_safe_40 rfl ?_
    refine f_getA C dX12_safe_41 fl_KilnBenchModel_189 rfl (by decide) (by decide) (by decide) (by decide) ?_
    refine m_iload_n C dX12_safe_44 rfl ?_
    refine m_aload_n C dX12_safe_45 rfl ?_
    refine m_iconst C dX12_safe_46 (by unfold in32; omega) ?_
    refine m_iload_n C dX12_safe_47 rfl ?_
    refine m_iload_n C dX12_safe_48 rfl ?_
    refine f_callVi (As := [vI 0, vI a1, vI l3]) (st := [vI l3, vR 34 59]) C dX12_safe_49 ml_KilnBenchModel_425 rfl (by decide) rfl rfl rfl (Nat.le_of_ble_eq_true rfl) h (fun r3 μ2 h => ?_)
    obtain ⟨hb, h⟩ := h
    refine f_iast C dX12_safe_52 (m_arO (a := 0) (len := 7) rfl rfl) (by decide) hb ?_
    refine n_mem (fun μ4 eμ4 => ?_)
    have h := h μ4 eμ4
    refine n_iinc (fun x5 => [some (vR 34 0), some (vI a1), some (vI l2), some (vI x5)]) C dX12_safe_53 rfl (by decide) (fun _ => rfl) (fun x5 ex5 => ?_)
    have h := h x5 ex5
    refine m_goto (tgt := 35) C dX12_safe_56 (by decide) ?_
    exact h

set_option maxRecDepth 20000 in
theorem VX12_safe_62 {G : m_G} {X : m_X} {d : Nat} {K : Int → m_M → Prop} (C : mC G X YX12_safe (d + 1)) (R : r_i G X K) {μ : m_M} {a1 : Int} {l2 : Int} {l3 : Int}
    (h : ((l3 < 0) → K (-1) μ) ∧ ((¬ l3 < 0) → c_i G d YX12_sumOf [vR 34 0, vI l2, vI l3] μ (fun r2 μ1 => ((r2 = (-1)) → ∀ x3 : Int, x3 = w32 (l3 + (-1)) → mW G X YX12_safe μ1 62 [some (vR 34 0), some (vI a1), some (vI l2), some (vI x3)] []) ∧ ((¬ r2 = (-1)) → K l3 μ1)))) :
    mW G X YX12_safe μ 62 [some (vR 34 0), some (vI a1), some (vI l2), some (vI l3)] [] := by
  refine m_iload_n C dX12_safe_62 rfl ?_
  refine m_if_lt (tgt := 84) C dX12_safe_63 (by decide) (fun c => ?_) (fun c => ?_)
  · have h := h.1 c
    refine m_iconst C dX12_safe_84 (by unfold in32; omega) ?_
    exact f_iret C R rfl dX12_safe_85 h
  · have h := h.2 c
    refine m_aload_n C dX12_safe_66 rfl ?_
    refine m_iload_n C dX12_safe_67 rfl ?_
    refine m_iload_n C dX12_safe_68 rfl ?_
    refine f_callVi (As := [vI l2, vI l3]) (st := []) C dX12_safe_69 ml_KilnBenchModel_468 rfl (by decide) rfl rfl rfl (Nat.le_of_ble_eq_true rfl) h (fun r2 μ1 h => ?_)
    refine m_iconst C dX12_safe_72 (by unfold in32; omega) ?_
    refine m_icmp_eq (tgt := 78) C dX12_safe_73 (by decide) (fun c => ?_) (fun c => ?_)
    · have h := h.1 c
      refine n_iinc (fun x3 => [some (vR 34 0), some (vI a1), some (vI l2), some (vI x3)]) C dX12_safe_78 rfl (by decide) (fun _ => rfl) (fun x3 ex3 => ?_)
      have h := h x3 ex3
      refine m_goto (tgt := 62) C dX12_safe_81 (by decide) ?_
      exact h
    · have h := h.2 c
      refine m_iload_n C dX12_safe_76 rfl ?_
      exact f_iret C R rfl dX12_safe_77 h

set_option maxRecDepth 20000 in
theorem VX12_isNextRow_0 {G : m_G} {X : m_X} {d : Nat} {K : Int → m_M → Prop} (C : mC G X YX12_isNextRow (d + 1)) (R : r_i G X K) {μ : m_M} {a1 : Int}
    (h : ∀ x1 : Int, x1 = w32 (a1 - 2) → mW G X YX12_isNextRow μ 4 [some (vR 34 0), some (vI a1), some (vI x1), none, none, none] []) :
    mW G X YX12_isNextRow μ 0 [some (vR 34 0), some (vI a1), none, none, none, none] [] := by
  refine m_iload_n C dX12_isNextRow_0 rfl ?_
  refine m_iconst C dX12_isNextRow_1 (by unfold in32; omega) ?_
  refine m_isub C dX12_isNextRow_2 ?_
  refine n_istore_n (fun x1 => [some (vR 34 0), some (vI a1), some (vI x1), none, none, none]) C dX12_isNextRow_3 (by decide) (fun _ => rfl) (fun x1 ex1 => ?_)
  have h := h x1 ex1
  exact h

set_option maxRecDepth 20000 in
theorem VX12_isNextRow_4 {G : m_G} {X : m_X} {d : Nat} {K : Int → m_M → Prop} (C : mC G X YX12_isNextRow (d + 1)) (R : r_i G X K) {μ : m_M} {a1 : Int} {l2 : Int}
    (h : ((l2 < 0) → ((0 ≤ l2) → ∀ x1 : Int, x1 = w32 (a1 - 1) → mW G X YX12_isNextRow μ 41 [some (vR 34 0), some (vI a1), some (vI l2), some (vI x1), none, none] []) ∧ ((¬ 0 ≤ l2) → K 0 μ)) ∧ ((¬ l2 < 0) → (0 ≤ l2 ∧ l2 < 7) ∧ (0 ≤ w32 (l2 + 1) ∧ w32 (l2 + 1) < 7) ∧ ((μ 34 59 l2.toNat < μ 34 59 (w32 (l2 + 1)).toNat) → ((0 ≤ l2) → ∀ x2 : Int, x2 = w32 (a1 - 1) → mW G X YX12_isNextRow μ 41 [some (vR 34 0), some (vI a1), some (vI l2), some (vI x2), none, none] []) ∧ ((¬ 0 ≤ l2) → K 0 μ)) ∧ ((¬ μ 34 59 l2.toNat < μ 34 59 (w32 (l2 + 1)).toNat) → ∀ x3 : Int, x3 = w32 (l2 + (-1)) → mW G X YX12_isNextRow μ 4 [some (vR 34 0), some (vI a1), some (vI x3), none, none, none] []))) :
    mW G X YX12_isNextRow μ 4 [some (vR 34 0), some (vI a1), some (vI l2), none, none, none] [] := by
  refine m_iload_n C dX12_isNextRow_4 rfl ?_
  refine m_if_lt (tgt := 31) C dX12_isNextRow_5 (by decide) (fun c => ?_) (fun c => ?_)
  · have h := h.1 c
    refine m_iload_n C dX12_isNextRow_31 rfl ?_
    refine m_if_ge (tgt := 37) C dX12_isNextRow_32 (by decide) (fun c => ?_) (fun c => ?_)
    · have h := h.1 c
      refine m_iload_n C dX12_isNextRow_37 rfl ?_
      refine m_iconst C dX12_isNextRow_38 (by unfold in32; omega) ?_
      refine m_isub C dX12_isNextRow_39 ?_
      refine n_istore_n (fun x1 => [some (vR 34 0), some (vI a1), some (vI l2), some (vI x1), none, none]) C dX12_isNextRow_40 (by decide) (fun _ => rfl) (fun x1 ex1 => ?_)
      have h := h x1 ex1
      exact h
    · have h := h.2 c
      refine m_iconst C dX12_isNextRow_35 (by unfold in32; omega) ?_
      exact f_zret C R rfl dX12_isNextRow_36 (by decide) h
  · have h := h.2 c
    refine m_aload_n C dX12_isNextRow_8 rfl ?_
    refine f_getA C dX12_isNextRow_9 fl_KilnBenchModel_189 rfl (by decide) (by decide) (by decide) (by decide) ?_
    refine m_iload_n C dX12_isNextRow_12 rfl ?_
    obtain ⟨hb, h⟩ := h
    refine f_iald C dX12_isNextRow_13 (m_arO (a := 0) (len := 7) rfl rfl) (by decide) hb ?_
    refine m_aload_n C dX12_isNextRow_14 rfl ?_
    refine f_getA C dX12_isNextRow_15 fl_KilnBenchModel_189 rfl (by decide) (by decide) (by decide) (by decide) ?_
    refine m_iload_n C dX12_isNextRow_18 rfl ?_
    refine m_iconst C dX12_isNextRow_19 (by unfold in32; omega) ?_
    refine m_iadd C dX12_isNextRow_20 ?_
    obtain ⟨hb, h⟩ := h
    refine f_iald C dX12_isNextRow_21 (m_arO (a := 0) (len := 7) rfl rfl) (by decide) hb ?_
    refine m_icmp_lt (tgt := 31) C dX12_isNextRow_22 (by decide) (fun c => ?_) (fun c => ?_)
    · have h := h.1 c
      refine m_iload_n C dX12_isNextRow_31 rfl ?_
      refine m_if_ge (tgt := 37) C dX12_isNextRow_32 (by decide) (fun c => ?_) (fun c => ?_)
      · have h := h.1 c
        refine m_iload_n C dX12_isNextRow_37 rfl ?_
        refine m_iconst C dX12_isNextRow_38 (by unfold in32; omega) ?_
        refine m_isub C dX12_isNextRow_39 ?_
        refine n_istore_n (fun x2 => [some (vR 34 0), some (vI a1), some (vI l2), some (vI x2), none, none]) C dX12_isNextRow_40 (by decide) (fun _ => rfl) (fun x2 ex2 => ?_)
        have h := h x2 ex2
        exact h
      · have h := h.2 c
        refine m_iconst C dX12_isNextRow_35 (by unfold in32; omega) ?_
        exact f_zret C R rfl dX12_isNextRow_36 (by decide) h
    · have h := h.2 c
      refine n_iinc (fun x3 => [some (vR 34 0), some (vI a1), some (vI x3), none, none, none]) C dX12_isNextRow_25 rfl (by decide) (fun _ => rfl) (fun x3 ex3 => ?_)
      have h := h x3 ex3
      refine m_goto (tgt := 4) C dX12_isNextRow_28 (by decide) ?_
      exact h

set_option maxRecDepth 20000 in
theorem VX12_isNextRow_41 {G : m_G} {X : m_X} {d : Nat} {K : Int → m_M → Prop} (C : mC G X YX12_isNextRow (d + 1)) (R : r_i G X K) {μ : m_M} {a1 : Int} {l2 : Int} {l3 : Int}
    (h : (0 ≤ l3 ∧ l3 < 7) ∧ (0 ≤ l2 ∧ l2 < 7) ∧ ((μ 34 59 l2.toNat < μ 34 59 l3.toNat) → c_v G d YX12_changes [vR 34 0, vI l2, vI l3] μ (fun μ1 => ∀ x2 : Int, x2 = w32 (l2 + 1) → ∀ x3 : Int, x3 = w32 (a1 - 1) → mW G X YX12_isNextRow μ1 78 [some (vR 34 0), some (vI a1), some (vI l2), some (vI l3), some (vI x2), some (vI x3)] [])) ∧ ((¬ μ 34 59 l2.toNat < μ 34 59 l3.toNat) → ∀ x4 : Int, x4 = w32 (l3 + (-1)) → mW G X YX12_isNextRow μ 41 [some (vR 34 0), some (vI a1), some (vI l2), some (vI x4), none, none] [])) :
    mW G X YX12_isNextRow μ 41 [some (vR 34 0), some (vI a1), some (vI l2), some (vI l3), none, none] [] := by
  refine m_aload_n C dX12_isNextRow_41 rfl ?_
  refine f_getA C dX12_isNextRow_42 fl_KilnBenchModel_189 rfl (by decide) (by decide) (by decide) (by decide) ?_
  refine m_iload_n C dX12_isNextRow_45 rfl ?_
  obtain ⟨hb, h⟩ := h
  refine f_iald C dX12_isNextRow_46 (m_arO (a := 0) (len := 7) rfl rfl) (by decide) hb ?_
  refine m_aload_n C dX12_isNextRow_47 rfl ?_
  refine f_getA C dX12_isNextRow_48 fl_KilnBenchModel_189 rfl (by decide) (by decide) (by decide) (by decide) ?_
  refine m_iload_n C dX12_isNextRow_51 rfl ?_
  obtain ⟨hb, h⟩ := h
  refine f_iald C dX12_isNextRow_52 (m_arO (a := 0) (len := 7) rfl rfl) (by decide) hb ?_
  refine m_icmp_gt (tgt := 62) C dX12_isNextRow_53 (by decide) (fun c => ?_) (fun c => ?_)
  · have h := h.1 c
    refine m_aload_n C dX12_isNextRow_62 rfl ?_
    refine m_iload_n C dX12_isNextRow_63 rfl ?_
    refine m_iload_n C dX12_isNextRow_64 rfl ?_
    refine f_callVv (As := [vI l2, vI l3]) (st := []) C dX12_isNextRow_65 ml_KilnBenchModel_471 rfl (by decide) rfl rfl rfl (Nat.le_of_ble_eq_true rfl) h (fun μ1 h => ?_)
    refine m_iload_n C dX12_isNextRow_68 rfl ?_
    refine m_iconst C dX12_isNextRow_69 (by unfold in32; omega) ?_
    refine m_iadd C dX12_isNextRow_70 ?_
    refine n_istore (fun x2 => [some (vR 34 0), some (vI a1), some (vI l2), some (vI l3), some (vI x2), none]) C dX12_isNextRow_71 (by decide) (fun _ => rfl) (fun x2 ex2 => ?_)
    have h := h x2 ex2
    refine m_iload_n C dX12_isNextRow_73 rfl ?_
    refine m_iconst C dX12_isNextRow_74 (by unfold in32; omega) ?_
    refine m_isub C dX12_isNextRow_75 ?_
    refine n_istore (fun x3 => [some (vR 34 0), some (vI a1), some (vI l2), some (vI l3), some (vI x2), some (vI x3)]) C dX12_isNextRow_76 (by decide) (fun _ => rfl) (fun x3 ex3 => ?_)
    have h := h x3 ex3
    exact h
  · have h := h.2 c
    refine n_iinc (fun x4 => [some (vR 34 0), some (vI a1), some (vI l2), some (vI x4), none, none]) C dX12_isNextRow_56 rfl (by decide) (fun _ => rfl) (fun x4 ex4 => ?_)
    have h := h x4 ex4
    refine m_goto (tgt := 41) C dX12_isNextRow_59 (by decide) ?_
    exact h

set_option maxRecDepth 20000 in
theorem VX12_isNextRow_78 {G : m_G} {X : m_X} {d : Nat} {K : Int → m_M → Prop} (C : mC G X YX12_isNextRow (d + 1)) (R : r_i G X K) {μ : m_M} {a1 : Int} {l2 : Int} {l3 : Int} {l4 : Int} {l5 : Int}
    (h : ((l5 ≤ l4) → K 1 μ) ∧ ((¬ l5 ≤ l4) → c_v G d YX12_changes [vR 34 0, vI l4, vI l5] μ (fun μ1 => ∀ x2 : Int, x2 = w32 (l5 + (-1)) → ∀ x3 : Int, x3 = w32 (l4 + 1) → mW G X YX12_isNextRow μ1 78 [some (vR 34 0), some (vI a1), some (vI l2), some (vI l3), some (vI x3), some (vI x2)] []))) :
    mW G X YX12_isNextRow μ 78 [some (vR 34 0), some (vI a1), some (vI l2), some (vI l3), some (vI l4), some (vI l5)] [] := by
  refine m_iload C dX12_isNextRow_78 rfl ?_
  refine m_iload C dX12_isNextRow_80 rfl ?_
  refine m_icmp_ge (tgt := 102) C dX12_isNextRow_82 (by decide) (fun c => ?_) (fun c => ?_)
  · have h := h.1 c
    refine m_iconst C dX12_isNextRow_102 (by unfold in32; omega) ?_
    exact f_zret C R rfl dX12_isNextRow_103 (by decide) h
  · have h := h.2 c
    refine m_aload_n C dX12_isNextRow_85 rfl ?_
    refine m_iload C dX12_isNextRow_86 rfl ?_
    refine m_iload C dX12_isNextRow_88 rfl ?_
    refine f_callVv (As := [vI l4, vI l5]) (st := []) C dX12_isNextRow_90 ml_KilnBenchModel_471 rfl (by decide) rfl rfl rfl (Nat.le_of_ble_eq_true rfl) h (fun μ1 h => ?_)
    refine n_iinc (fun x2 => [some (vR 34 0), some (vI a1), some (vI l2), some (vI l3), some (vI l4), some (vI x2)]) C dX12_isNextRow_93 rfl (by decide) (fun _ => rfl) (fun x2 ex2 => ?_)
    have h := h x2 ex2
    refine n_iinc (fun x3 => [some (vR 34 0), some (vI a1), some (vI l2), some (vI l3), some (vI x3), some (vI x2)]) C dX12_isNextRow_96 rfl (by decide) (fun _ => rfl) (fun x3 ex3 => ?_)
    have h := h x3 ex3
    refine m_goto (tgt := 78) C dX12_isNextRow_99 (by decide) ?_
    exact h

set_option maxRecDepth 20000 in
theorem VX12_changes_0 {G : m_G} {X : m_X} {d : Nat} {K : m_M → Prop} (C : mC G X YX12_changes (d + 1)) (R : r_v G X K) {μ : m_M} {a1 : Int} {a2 : Int}
    (h : (0 ≤ a1 ∧ a1 < 7) ∧ ∀ x1 : Int, x1 = μ 34 59 a1.toNat → (0 ≤ a2 ∧ a2 < 7) ∧ (0 ≤ a1 ∧ a1 < 7) ∧ ∀ μ2 : m_M, μ2 = m_up μ 34 59 a1.toNat (μ 34 59 a2.toNat) → (0 ≤ a2 ∧ a2 < 7) ∧ ∀ μ3 : m_M, μ3 = m_up μ2 34 59 a2.toNat x1 → K μ3) :
    mW G X YX12_changes μ 0 [some (vR 34 0), some (vI a1), some (vI a2), none] [] := by
  refine m_aload_n C dX12_changes_0 rfl ?_
  refine f_getA C dX12_changes_1 fl_KilnBenchModel_189 rfl (by decide) (by decide) (by decide) (by decide) ?_
  refine m_iload_n C dX12_changes_4 rfl ?_
  obtain ⟨hb, h⟩ := h
  refine f_iald C dX12_changes_5 (m_arO (a := 0) (len := 7) rfl rfl) (by decide) hb ?_
  refine n_istore_n (fun x1 => [some (vR 34 0), some (vI a1), some (vI a2), some (vI x1)]) C dX12_changes_6 (by decide) (fun _ => rfl) (fun x1 ex1 => ?_)
  have h := h x1 ex1
  refine m_aload_n C dX12_changes_7 rfl ?_
  refine f_getA C dX12_changes_8 fl_KilnBenchModel_189 rfl (by decide) (by decide) (by decide) (by decide) ?_
  refine m_iload_n C dX12_changes_11 rfl ?_
  refine m_aload_n C dX12_changes_12 rfl ?_
  refine f_getA C dX12_changes_13 fl_KilnBenchModel_189 rfl (by decide) (by decide) (by decide) (by decide) ?_
  refine m_iload_n C dX12_changes_16 rfl ?_
  obtain ⟨hb, h⟩ := h
  refine f_iald C dX12_changes_17 (m_arO (a := 0) (len := 7) rfl rfl) (by decide) hb ?_
  obtain ⟨hb, h⟩ := h
  refine f_iast C dX12_changes_18 (m_arO (a := 0) (len := 7) rfl rfl) (by decide) hb ?_
  refine n_mem (fun μ2 eμ2 => ?_)
  have h := h μ2 eμ2
  refine m_aload_n C dX12_changes_19 rfl ?_
  refine f_getA C dX12_changes_20 fl_KilnBenchModel_189 rfl (by decide) (by decide) (by decide) (by decide) ?_
  refine m_iload_n C dX12_changes_23 rfl ?_
  refine m_iload_n C dX12_changes_24 rfl ?_
  obtain ⟨hb, h⟩ := h
  refine f_iast C dX12_changes_25 (m_arO (a := 0) (len := 7) rfl rfl) (by decide) hb ?_
  refine n_mem (fun μ3 eμ3 => ?_)
  have h := h μ3 eμ3
  exact f_vret C R rfl dX12_changes_26 h

set_option maxRecDepth 20000 in
theorem VX12_firstRow_0 {G : m_G} {X : m_X} {d : Nat} {K : m_M → Prop} (C : mC G X YX12_firstRow (d + 1)) (R : r_v G X K) {μ : m_M} {a1 : Int} {a2 : Int}
    (h : c_i G d YX12_full [vR 34 0, vI 0, vI a1] μ (fun r3 μ2 => mW G X YX12_firstRow μ2 10 [some (vR 34 0), some (vI a1), some (vI a2), some (vI 0), some (vI r3)] [])) :
    mW G X YX12_firstRow μ 0 [some (vR 34 0), some (vI a1), some (vI a2), none, none] [] := by
  refine m_iconst C dX12_firstRow_0 (by unfold in32; omega) ?_
  refine o_istore_n [some (vR 34 0), some (vI a1), some (vI a2), some (vI 0), none] C dX12_firstRow_1 (by decide) rfl ?_
  refine m_aload_n C dX12_firstRow_2 rfl ?_
  refine m_iconst C dX12_firstRow_3 (by unfold in32; omega) ?_
  refine m_iload_n C dX12_firstRow_4 rfl ?_
  refine f_callVi (As := [vI 0, vI a1]) (st := []) C dX12_firstRow_5 ml_KilnBenchModel_422 rfl (by decide) rfl rfl rfl (Nat.le_of_ble_eq_true rfl) h (fun r3 μ2 h => ?_)
  refine o_istore [some (vR 34 0), some (vI a1), some (vI a2), some (vI 0), some (vI r3)] C dX12_firstRow_8 (by decide) rfl ?_
  exact h

set_option maxRecDepth 20000 in
theorem VX12_firstRow_10 {G : m_G} {X : m_X} {d : Nat} {K : m_M → Prop} (C : mC G X YX12_firstRow (d + 1)) (R : r_v G X K) {μ : m_M} {a1 : Int} {a2 : Int} {l3 : Int} {l4 : Int}
    (h : ((a2 ≤ l4) → mW G X YX12_firstRow μ 35 [some (vR 34 0), some (vI a1), some (vI a2), some (vI l3), some (vI 0)] []) ∧ ((¬ a2 ≤ l4) → (0 ≤ l3 ∧ l3 < 7) ∧ ∀ μ2 : m_M, μ2 = m_up μ 34 59 l3.toNat (-1) → ∀ x3 : Int, x3 = w32 (l3 + 1) → ∀ x4 : Int, x4 = w32 (l4 + 1) → mW G X YX12_firstRow μ2 10 [some (vR 34 0), some (vI a1), some (vI a2), some (vI x3), some (vI x4)] [])) :
    mW G X YX12_firstRow μ 10 [some (vR 34 0), some (vI a1), some (vI a2), some (vI l3), some (vI l4)] [] := by
  refine m_iload C dX12_firstRow_10 rfl ?_
  refine m_iload_n C dX12_firstRow_12 rfl ?_
  refine m_icmp_ge (tgt := 32) C dX12_firstRow_13 (by decide) (fun c => ?_) (fun c => ?_)
  · have h := h.1 c
    refine m_iconst C dX12_firstRow_32 (by unfold in32; omega) ?_
    refine o_istore [some (vR 34 0), some (vI a1), some (vI a2), some (vI l3), some (vI 0)] C dX12_firstRow_33 (by decide) rfl ?_
    exact h
  · have h := h.2 c
    refine m_aload_n C dX12_firstRow_16 rfl ?_
    refine f_getA C dX12_firstRow_17 fl_KilnBenchModel_189 rfl (by decide) (by decide) (by decide) (by decide) ?_
    refine m_iload_n C dX12_firstRow_20 rfl ?_
    refine m_iconst C dX12_firstRow_21 (by unfold in32; omega) ?_
    obtain ⟨hb, h⟩ := h
    refine f_iast C dX12_firstRow_22 (m_arO (a := 0) (len := 7) rfl rfl) (by decide) hb ?_
    refine n_mem (fun μ2 eμ2 => ?_)
    have h := h μ2 eμ2
    refine n_iinc (fun x3 => [some (vR 34 0), some (vI a1), some (vI a2), some (vI x3), some (vI l4)]) C dX12_firstRow_23 rfl (by decide) (fun _ => rfl) (fun x3 ex3 => ?_)
    have h := h x3 ex3
    refine n_iinc (fun x4 => [some (vR 34 0), some (vI a1), some (vI a2), some (vI x3), some (vI x4)]) C dX12_firstRow_26 rfl (by decide) (fun _ => rfl) (fun x4 ex4 => ?_)
    have h := h x4 ex4
    refine m_goto (tgt := 10) C dX12_firstRow_29 (by decide) ?_
    exact h

set_option maxRecDepth 20000 in
theorem VX12_firstRow_35 {G : m_G} {X : m_X} {d : Nat} {K : m_M → Prop} (C : mC G X YX12_firstRow (d + 1)) (R : r_v G X K) {μ : m_M} {a1 : Int} {a2 : Int} {l3 : Int} {l4 : Int}
    (h : (0 ≤ μ 34 0 13 ∧ μ 34 0 13 < 2) ∧ ((μ 34 15 (μ 34 0 13).toNat ≤ l4) → K μ) ∧ ((¬ μ 34 15 (μ 34 0 13).toNat ≤ l4) → (0 ≤ l4 ∧ l4 < 176) ∧ ((μ 34 45 l4.toNat = a1) → (0 ≤ l3 ∧ l3 < 7) ∧ ∀ μ1 : m_M, μ1 = m_up μ 34 59 l3.toNat l4 → ∀ x2 : Int, x2 = w32 (l3 + 1) → ∀ x3 : Int, x3 = w32 (l4 + 1) → mW G X YX12_firstRow μ1 35 [some (vR 34 0), some (vI a1), some (vI a2), some (vI x2), some (vI x3)] []) ∧ ((¬ μ 34 45 l4.toNat = a1) → ∀ x4 : Int, x4 = w32 (l4 + 1) → mW G X YX12_firstRow μ 35 [some (vR 34 0), some (vI a1), some (vI a2), some (vI l3), some (vI x4)] []))) :
    mW G X YX12_firstRow μ 35 [some (vR 34 0), some (vI a1), some (vI a2), some (vI l3), some (vI l4)] [] := by
  refine m_iload C dX12_firstRow_35 rfl ?_
  refine m_aload_n C dX12_firstRow_37 rfl ?_
  refine f_getA C dX12_firstRow_38 fl_KilnBenchModel_54 rfl (by decide) (by decide) (by decide) (by decide) ?_
  refine m_aload_n C dX12_firstRow_41 rfl ?_
  refine f_getI C dX12_firstRow_42 fl_KilnBenchModel_51 rfl (by decide) (by decide) ?_
  obtain ⟨hb, h⟩ := h
  refine f_iald C dX12_firstRow_45 (m_arO (a := 0) (len := 2) rfl rfl) (by decide) hb ?_
  refine m_icmp_ge (tgt := 80) C dX12_firstRow_46 (by decide) (fun c => ?_) (fun c => ?_)
  · have h := h.1 c
    exact f_vret C R rfl dX12_firstRow_80 h
  · have h := h.2 c
    refine m_aload_n C dX12_firstRow_49 rfl ?_
    refine f_getA C dX12_firstRow_50 fl_KilnBenchModel_147 rfl (by decide) (by decide) (by decide) (by decide) ?_
    refine m_iload C dX12_firstRow_53 rfl ?_
    obtain ⟨hb, h⟩ := h
    refine f_iald C dX12_firstRow_55 (m_arO (a := 0) (len := 176) rfl rfl) (by decide) hb ?_
    refine m_iload_n C dX12_firstRow_56 rfl ?_
    refine m_icmp_eq (tgt := 63) C dX12_firstRow_57 (by decide) (fun c => ?_) (fun c => ?_)
    · have h := h.1 c
      refine m_aload_n C dX12_firstRow_63 rfl ?_
      refine f_getA C dX12_firstRow_64 fl_KilnBenchModel_189 rfl (by decide) (by decide) (by decide) (by decide) ?_
      refine m_iload_n C dX12_firstRow_67 rfl ?_
      refine m_iload C dX12_firstRow_68 rfl ?_
      obtain ⟨hb, h⟩ := h
      refine f_iast C dX12_firstRow_70 (m_arO (a := 0) (len := 7) rfl rfl) (by decide) hb ?_
      refine n_mem (fun μ1 eμ1 => ?_)
      have h := h μ1 eμ1
      refine n_iinc (fun x2 => [some (vR 34 0), some (vI a1), some (vI a2), some (vI x2), some (vI l4)]) C dX12_firstRow_71 rfl (by decide) (fun _ => rfl) (fun x2 ex2 => ?_)
      have h := h x2 ex2
      refine n_iinc (fun x3 => [some (vR 34 0), some (vI a1), some (vI a2), some (vI x2), some (vI x3)]) C dX12_firstRow_74 rfl (by decide) (fun _ => rfl) (fun x3 ex3 => ?_)
      have h := h x3 ex3
      refine m_goto (tgt := 35) C dX12_firstRow_77 (by decide) ?_
      exact h
    · have h := h.2 c
      refine m_goto (tgt := 74) C dX12_firstRow_60 (by decide) ?_
      refine n_iinc (fun x4 => [some (vR 34 0), some (vI a1), some (vI a2), some (vI l3), some (vI x4)]) C dX12_firstRow_74 rfl (by decide) (fun _ => rfl) (fun x4 ex4 => ?_)
      have h := h x4 ex4
      refine m_goto (tgt := 35) C dX12_firstRow_77 (by decide) ?_
      exact h

set_option maxRecDepth 20000 in
theorem VX12_best_0 {G : m_G} {X : m_X} {d : Nat} {K : Int → m_M → Prop} (C : mC G X YX12_best (d + 1)) (R : r_i G X K) {μ : m_M} {a1 : Int} {a2 : Int}
    (h : c_i G d YX12_isKiln [vR 34 0, vI a1] μ (fun r2 μ1 => ((r2 = 0) → K (-1) μ1) ∧ ((¬ r2 = 0) → c_i G d YX12_full [vR 34 0, vI 0, vI a1] μ1 (fun r4 μ3 => ((r4 = 0) → K (-1) μ3) ∧ ((¬ r4 = 0) → (0 ≤ w32 ((w32 (3 * (μ3 34 0 13))) + a1) ∧ w32 ((w32 (3 * (μ3 34 0 13))) + a1) < 6) ∧ c_i G d YX12_is [vI a2, vI 0, vI (w32 (1 + (μ3 34 19 (w32 ((w32 (3 * (μ3 34 0 13))) + a1)).toNat)))] μ3 (fun r6 μ5 => ((¬ r6 = 0) → (0 ≤ w32 ((w32 (3 * (μ5 34 0 13))) + a1) ∧ w32 ((w32 (3 * (μ5 34 0 13))) + a1) < 6) ∧ ∀ x7 : Int, x7 = μ5 34 19 (w32 ((w32 (3 * (μ5 34 0 13))) + a1)).toNat → mW G X YX12_best μ5 65 [some (vR 34 0), some (vI a1), some (vI a2), some (vI x7), some (vI (-1)), some (vI (-1)), some (vI 0), none, none, none] []) ∧ ((r6 = 0) → K (-1) μ5))))))) :
    mW G X YX12_best μ 0 [some (vR 34 0), some (vI a1), some (vI a2), none, none, none, none, none, none, none] [] := by
  refine m_aload_n C dX12_best_0 rfl ?_
  refine m_iload_n C dX12_best_1 rfl ?_
  refine f_callVi (As := [vI a1]) (st := []) C dX12_best_2 ml_KilnBenchModel_447 rfl (by decide) rfl rfl rfl (Nat.le_of_ble_eq_true rfl) h (fun r2 μ1 h => ?_)
  refine m_if_eq (tgt := 40) C dX12_best_5 (by decide) (fun c => ?_) (fun c => ?_)
  · have h := h.1 c
    refine m_iconst C dX12_best_40 (by unfold in32; omega) ?_
    exact f_iret C R rfl dX12_best_41 h
  · have h := h.2 c
    refine m_aload_n C dX12_best_8 rfl ?_
    refine m_iconst C dX12_best_9 (by unfold in32; omega) ?_
    refine m_iload_n C dX12_best_10 rfl ?_
    refine f_callVi (As := [vI 0, vI a1]) (st := []) C dX12_best_11 ml_KilnBenchModel_422 rfl (by decide) rfl rfl rfl (Nat.le_of_ble_eq_true rfl) h (fun r4 μ3 h => ?_)
    refine m_if_eq (tgt := 40) C dX12_best_14 (by decide) (fun c => ?_) (fun c => ?_)
    · have h := h.1 c
      refine m_iconst C dX12_best_40 (by unfold in32; omega) ?_
      exact f_iret C R rfl dX12_best_41 h
    · have h := h.2 c
      refine m_iload_n C dX12_best_17 rfl ?_
      refine m_iconst C dX12_best_18 (by unfold in32; omega) ?_
      refine m_iconst C dX12_best_19 (by unfold in32; omega) ?_
      refine m_aload_n C dX12_best_20 rfl ?_
      refine f_getA C dX12_best_21 fl_KilnBenchModel_66 rfl (by decide) (by decide) (by decide) (by decide) ?_
      refine m_iconst C dX12_best_24 (by unfold in32; omega) ?_
      refine m_aload_n C dX12_best_25 rfl ?_
      refine f_getI C dX12_best_26 fl_KilnBenchModel_51 rfl (by decide) (by decide) ?_
      refine m_imul C dX12_best_29 ?_
      refine m_iload_n C dX12_best_30 rfl ?_
      refine m_iadd C dX12_best_31 ?_
      obtain ⟨hb, h⟩ := h
      refine f_iald C dX12_best_32 (m_arO (a := 0) (len := 6) rfl rfl) (by decide) hb ?_
      refine m_iadd C dX12_best_33 ?_
      refine f_callSi (As := [vI a2, vI 0, vI (w32 (1 + (μ3 34 19 (w32 ((w32 (3 * (μ3 34 0 13))) + a1)).toNat)))]) (st := []) C dX12_best_34 ml_KilnBenchModel_296 rfl rfl (Nat.le_of_ble_eq_true rfl) h (fun r6 μ5 h => ?_)
      refine m_if_ne (tgt := 42) C dX12_best_37 (by decide) (fun c => ?_) (fun c => ?_)
      · have h := h.1 c
        refine m_aload_n C dX12_best_42 rfl ?_
        refine f_getA C dX12_best_43 fl_KilnBenchModel_66 rfl (by decide) (by decide) (by decide) (by decide) ?_
        refine m_iconst C dX12_best_46 (by unfold in32; omega) ?_
        refine m_aload_n C dX12_best_47 rfl ?_
        refine f_getI C dX12_best_48 fl_KilnBenchModel_51 rfl (by decide) (by decide) ?_
        refine m_imul C dX12_best_51 ?_
        refine m_iload_n C dX12_best_52 rfl ?_
        refine m_iadd C dX12_best_53 ?_
        obtain ⟨hb, h⟩ := h
        refine f_iald C dX12_best_54 (m_arO (a := 0) (len := 6) rfl rfl) (by decide) hb ?_
        refine n_istore_n (fun x7 => [some (vR 34 0), some (vI a1), some (vI a2), some (vI x7), none, none, none, none, none, none]) C dX12_best_55 (by decide) (fun _ => rfl) (fun x7 ex7 => ?_)
        have h := h x7 ex7
        refine m_iconst C dX12_best_56 (by unfold in32; omega) ?_
        refine o_istore [some (vR 34 0), some (vI a1), some (vI a2), some (vI x7), some (vI (-1)), none, none, none, none, none] C dX12_best_57 (by decide) rfl ?_
        refine m_iconst C dX12_best_59 (by unfold in32; omega) ?_
        refine o_istore [some (vR 34 0), some (vI a1), some (vI a2), some (vI x7), some (vI (-1)), some (vI (-1)), none, none, none, none] C dX12_best_60 (by decide) rfl ?_
        refine m_iconst C dX12_best_62 (by unfold in32; omega) ?_
        refine o_istore [some (vR 34 0), some (vI a1), some (vI a2), some (vI x7), some (vI (-1)), some (vI (-1)), some (vI 0), none, none, none] C dX12_best_63 (by decide) rfl ?_
        exact h
      · have h := h.2 c
        refine m_iconst C dX12_best_40 (by unfold in32; omega) ?_
        exact f_iret C R rfl dX12_best_41 h

set_option maxRecDepth 20000 in
theorem VX12_best_65 {G : m_G} {X : m_X} {d : Nat} {K : Int → m_M → Prop} (C : mC G X YX12_best (d + 1)) (R : r_i G X K) {μ : m_M} {a1 : Int} {a2 : Int} {l3 : Int} {l4 : Int} {l5 : Int} {l6 : Int}
    (h : ((20 < l6) → ((l4 = (-1)) → K l4 μ) ∧ ((¬ l4 = (-1)) → ((¬ a2 = 0) → ((¬ a2 = 1) → (0 ≤ w32 (a2 - 2) ∧ w32 (a2 - 2) < 6) ∧ K (μ 34 60 (w32 (a2 - 2)).toNat) μ) ∧ ((a2 = 1) → K l5 μ)) ∧ ((a2 = 0) → K l4 μ))) ∧ ((¬ 20 < l6) → c_v G d YX12_firstRow [vR 34 0, vI a1, vI l3] μ (fun μ1 => mW G X YX12_best μ1 81 [some (vR 34 0), some (vI a1), some (vI a2), some (vI l3), some (vI l4), some (vI l5), some (vI l6), some (vI 1), none, none] []))) :
    mW G X YX12_best μ 65 [some (vR 34 0), some (vI a1), some (vI a2), some (vI l3), some (vI l4), some (vI l5), some (vI l6), none, none, none] [] := by
  refine m_iload C dX12_best_65 rfl ?_
  refine m_bipush C dX12_best_67 (by omega) ?_
  refine m_icmp_gt (tgt := 155) C dX12_best_69 (by decide) (fun c => ?_) (fun c => ?_)
  · have h := h.1 c
    refine m_iload C dX12_best_155 rfl ?_
    refine m_iconst C dX12_best_157 (by unfold in32; omega) ?_
    refine m_icmp_eq (tgt := 165) C dX12_best_158 (by decide) (fun c => ?_) (fun c => ?_)
    · have h := h.1 c
      refine m_iload C dX12_best_165 rfl ?_
      refine m_goto (tgt := 188) C dX12_best_167 (by decide) ?_
      exact f_iret C R rfl dX12_best_188 h
    · have h := h.2 c
      refine m_iload_n C dX12_best_161 rfl ?_
      refine m_if_ne (tgt := 170) C dX12_best_162 (by decide) (fun c => ?_) (fun c => ?_)
      · have h := h.1 c
        refine m_iload_n C dX12_best_170 rfl ?_
        refine m_iconst C dX12_best_171 (by unfold in32; omega) ?_
        refine m_icmp_ne (tgt := 180) C dX12_best_172 (by decide) (fun c => ?_) (fun c => ?_)
        · have h := h.1 c
          refine m_aload_n C dX12_best_180 rfl ?_
          refine f_getA C dX12_best_181 fl_KilnBenchModel_192 rfl (by decide) (by decide) (by decide) (by decide) ?_
          refine m_iload_n C dX12_best_184 rfl ?_
          refine m_iconst C dX12_best_185 (by unfold in32; omega) ?_
          refine m_isub C dX12_best_186 ?_
          obtain ⟨hb, h⟩ := h
          refine f_iald C dX12_best_187 (m_arO (a := 0) (len := 6) rfl rfl) (by decide) hb ?_
          exact f_iret C R rfl dX12_best_188 h
        · have h := h.2 c
          refine m_iload C dX12_best_175 rfl ?_
          refine m_goto (tgt := 188) C dX12_best_177 (by decide) ?_
          exact f_iret C R rfl dX12_best_188 h
      · have h := h.2 c
        refine m_iload C dX12_best_165 rfl ?_
        refine m_goto (tgt := 188) C dX12_best_167 (by decide) ?_
        exact f_iret C R rfl dX12_best_188 h
  · have h := h.2 c
    refine m_aload_n C dX12_best_72 rfl ?_
    refine m_iload_n C dX12_best_73 rfl ?_
    refine m_iload_n C dX12_best_74 rfl ?_
    refine f_callVv (As := [vI a1, vI l3]) (st := []) C dX12_best_75 ml_KilnBenchModel_474 rfl (by decide) rfl rfl rfl (Nat.le_of_ble_eq_true rfl) h (fun μ1 h => ?_)
    refine m_iconst C dX12_best_78 (by unfold in32; omega) ?_
    refine o_istore [some (vR 34 0), some (vI a1), some (vI a2), some (vI l3), some (vI l4), some (vI l5), some (vI l6), some (vI 1), none, none] C dX12_best_79 (by decide) rfl ?_
    exact h

set_option maxRecDepth 20000 in
theorem VX12_best_81 {G : m_G} {X : m_X} {d : Nat} {K : Int → m_M → Prop} (C : mC G X YX12_best (d + 1)) (R : r_i G X K) {μ : m_M} {a1 : Int} {a2 : Int} {l3 : Int} {l4 : Int} {l5 : Int} {l6 : Int} {l7 : Int}
    (h : ((l7 = 0) → ∀ x1 : Int, x1 = w32 (l6 + 1) → mW G X YX12_best μ 65 [some (vR 34 0), some (vI a1), some (vI a2), some (vI l3), some (vI l4), some (vI l5), some (vI x1), none, none, none] []) ∧ ((¬ l7 = 0) → c_i G d YX12_sumOf [vR 34 0, vI l3, vI l6] μ (fun r3 μ2 => ((r3 ≤ l5) → c_i G d YX12_isNextRow [vR 34 0, vI l3] μ2 (fun r6 μ5 => mW G X YX12_best μ5 81 [some (vR 34 0), some (vI a1), some (vI a2), some (vI l3), some (vI l4), some (vI l5), some (vI l6), some (vI r6), none, none] [])) ∧ ((¬ r3 ≤ l5) → mW G X YX12_best μ2 113 [some (vR 34 0), some (vI a1), some (vI a2), some (vI l3), some (vI l6), some (vI r3), some (vI l6), some (vI l7), some (vI r3), some (vI 0)] [])))) :
    mW G X YX12_best μ 81 [some (vR 34 0), some (vI a1), some (vI a2), some (vI l3), some (vI l4), some (vI l5), some (vI l6), some (vI l7), none, none] [] := by
  refine m_iload C dX12_best_81 rfl ?_
  refine m_if_eq (tgt := 149) C dX12_best_83 (by decide) (fun c => ?_) (fun c => ?_)
  · have h := h.1 c
    refine n_iinc (fun x1 => [some (vR 34 0), some (vI a1), some (vI a2), some (vI l3), some (vI l4), some (vI l5), some (vI x1), some (vI l7), none, none]) C dX12_best_149 rfl (by decide) (fun _ => rfl) (fun x1 ex1 => ?_)
    have h := h x1 ex1
    refine m_goto (tgt := 65) C dX12_best_152 (by decide) ?_
    exact n_weak (le_same (le_same (le_same (le_same (le_same (le_same (le_same (le_none (le_same (le_same le_nil)))))))))) h
  · have h := h.2 c
    refine m_aload_n C dX12_best_86 rfl ?_
    refine m_iload_n C dX12_best_87 rfl ?_
    refine m_iload C dX12_best_88 rfl ?_
    refine f_callVi (As := [vI l3, vI l6]) (st := []) C dX12_best_90 ml_KilnBenchModel_468 rfl (by decide) rfl rfl rfl (Nat.le_of_ble_eq_true rfl) h (fun r3 μ2 h => ?_)
    refine o_istore [some (vR 34 0), some (vI a1), some (vI a2), some (vI l3), some (vI l4), some (vI l5), some (vI l6), some (vI l7), some (vI r3), none] C dX12_best_93 (by decide) rfl ?_
    refine m_iload C dX12_best_95 rfl ?_
    refine m_iload C dX12_best_97 rfl ?_
    refine m_icmp_le (tgt := 139) C dX12_best_99 (by decide) (fun c => ?_) (fun c => ?_)
    · have h := h.1 c
      refine m_aload_n C dX12_best_139 rfl ?_
      refine m_iload_n C dX12_best_140 rfl ?_
      refine f_callVi (As := [vI l3]) (st := []) C dX12_best_141 ml_KilnBenchModel_477 rfl (by decide) rfl rfl rfl (Nat.le_of_ble_eq_true rfl) h (fun r6 μ5 h => ?_)
      refine o_istore [some (vR 34 0), some (vI a1), some (vI a2), some (vI l3), some (vI l4), some (vI l5), some (vI l6), some (vI r6), some (vI r3), none] C dX12_best_144 (by decide) rfl ?_
      refine m_goto (tgt := 81) C dX12_best_146 (by decide) ?_
      exact n_weak (le_same (le_same (le_same (le_same (le_same (le_same (le_same (le_same (le_none (le_same le_nil)))))))))) h
    · have h := h.2 c
      refine m_iload C dX12_best_102 rfl ?_
      refine o_istore [some (vR 34 0), some (vI a1), some (vI a2), some (vI l3), some (vI l4), some (vI r3), some (vI l6), some (vI l7), some (vI r3), none] C dX12_best_104 (by decide) rfl ?_
      refine m_iload C dX12_best_106 rfl ?_
      refine o_istore [some (vR 34 0), some (vI a1), some (vI a2), some (vI l3), some (vI l6), some (vI r3), some (vI l6), some (vI l7), some (vI r3), none] C dX12_best_108 (by decide) rfl ?_
      refine m_iconst C dX12_best_110 (by unfold in32; omega) ?_
      refine o_istore [some (vR 34 0), some (vI a1), some (vI a2), some (vI l3), some (vI l6), some (vI r3), some (vI l6), some (vI l7), some (vI r3), some (vI 0)] C dX12_best_111 (by decide) rfl ?_
      exact h

set_option maxRecDepth 20000 in
theorem VX12_best_113 {G : m_G} {X : m_X} {d : Nat} {K : Int → m_M → Prop} (C : mC G X YX12_best (d + 1)) (R : r_i G X K) {μ : m_M} {a1 : Int} {a2 : Int} {l3 : Int} {l4 : Int} {l5 : Int} {l6 : Int} {l7 : Int} {l8 : Int} {l9 : Int}
    (h : ((l3 ≤ l9) → c_i G d YX12_isNextRow [vR 34 0, vI l3] μ (fun r2 μ1 => mW G X YX12_best μ1 81 [some (vR 34 0), some (vI a1), some (vI a2), some (vI l3), some (vI l4), some (vI l5), some (vI l6), some (vI r2), none, none] [])) ∧ ((¬ l3 ≤ l9) → (0 ≤ l9 ∧ l9 < 7) ∧ (0 ≤ l9 ∧ l9 < 6) ∧ ∀ μ4 : m_M, μ4 = m_up μ 34 60 l9.toNat (μ 34 59 l9.toNat) → ∀ x5 : Int, x5 = w32 (l9 + 1) → mW G X YX12_best μ4 113 [some (vR 34 0), some (vI a1), some (vI a2), some (vI l3), some (vI l4), some (vI l5), some (vI l6), some (vI l7), some (vI l8), some (vI x5)] [])) :
    mW G X YX12_best μ 113 [some (vR 34 0), some (vI a1), some (vI a2), some (vI l3), some (vI l4), some (vI l5), some (vI l6), some (vI l7), some (vI l8), some (vI l9)] [] := by
  refine m_iload C dX12_best_113 rfl ?_
  refine m_iload_n C dX12_best_115 rfl ?_
  refine m_icmp_ge (tgt := 139) C dX12_best_116 (by decide) (fun c => ?_) (fun c => ?_)
  · have h := h.1 c
    refine m_aload_n C dX12_best_139 rfl ?_
    refine m_iload_n C dX12_best_140 rfl ?_
    refine f_callVi (As := [vI l3]) (st := []) C dX12_best_141 ml_KilnBenchModel_477 rfl (by decide) rfl rfl rfl (Nat.le_of_ble_eq_true rfl) h (fun r2 μ1 h => ?_)
    refine o_istore [some (vR 34 0), some (vI a1), some (vI a2), some (vI l3), some (vI l4), some (vI l5), some (vI l6), some (vI r2), some (vI l8), some (vI l9)] C dX12_best_144 (by decide) rfl ?_
    refine m_goto (tgt := 81) C dX12_best_146 (by decide) ?_
    exact n_weak (le_same (le_same (le_same (le_same (le_same (le_same (le_same (le_same (le_none (le_none le_nil)))))))))) h
  · have h := h.2 c
    refine m_aload_n C dX12_best_119 rfl ?_
    refine f_getA C dX12_best_120 fl_KilnBenchModel_192 rfl (by decide) (by decide) (by decide) (by decide) ?_
    refine m_iload C dX12_best_123 rfl ?_
    refine m_aload_n C dX12_best_125 rfl ?_
    refine f_getA C dX12_best_126 fl_KilnBenchModel_189 rfl (by decide) (by decide) (by decide) (by decide) ?_
    refine m_iload C dX12_best_129 rfl ?_
    obtain ⟨hb, h⟩ := h
    refine f_iald C dX12_best_131 (m_arO (a := 0) (len := 7) rfl rfl) (by decide) hb ?_
    obtain ⟨hb, h⟩ := h
    refine f_iast C dX12_best_132 (m_arO (a := 0) (len := 6) rfl rfl) (by decide) hb ?_
    refine n_mem (fun μ4 eμ4 => ?_)
    have h := h μ4 eμ4
    refine n_iinc (fun x5 => [some (vR 34 0), some (vI a1), some (vI a2), some (vI l3), some (vI l4), some (vI l5), some (vI l6), some (vI l7), some (vI l8), some (vI x5)]) C dX12_best_133 rfl (by decide) (fun _ => rfl) (fun x5 ex5 => ?_)
    have h := h x5 ex5
    refine m_goto (tgt := 113) C dX12_best_136 (by decide) ?_
    exact h

set_option maxRecDepth 20000 in
theorem VX12_brothers_0 {G : m_G} {X : m_X} {d : Nat} {K : Int → m_M → Prop} (C : mC G X YX12_brothers (d + 1)) (R : r_i G X K) {μ : m_M} {a1 : Int}
    (h : c_i G d YX12_isChild [vR 34 0, vI a1] μ (fun r2 μ1 => ((¬ r2 = 0) → (0 ≤ a1 ∧ a1 < 176) ∧ ((¬ (μ1 34 47 a1.toNat) = (-1)) → ∀ x3 : Int, x3 = i_shl 1 a1 → mW G X YX12_brothers μ1 30 [some (vR 34 0), some (vI a1), some (vI x3), some (vI 1), none, none] []) ∧ ((μ1 34 47 a1.toNat = (-1)) → mW G X YX12_brothers μ1 30 [some (vR 34 0), some (vI a1), some (vI 0), some (vI 1), none, none] [])) ∧ ((r2 = 0) → K (-1) μ1))) :
    mW G X YX12_brothers μ 0 [some (vR 34 0), some (vI a1), none, none, none, none] [] := by
  refine m_aload_n C dX12_brothers_0 rfl ?_
  refine m_iload_n C dX12_brothers_1 rfl ?_
  refine f_callVi (As := [vI a1]) (st := []) C dX12_brothers_2 ml_KilnBenchModel_453 rfl (by decide) rfl rfl rfl (Nat.le_of_ble_eq_true rfl) h (fun r2 μ1 h => ?_)
  refine m_if_ne (tgt := 10) C dX12_brothers_5 (by decide) (fun c => ?_) (fun c => ?_)
  · have h := h.1 c
    refine m_aload_n C dX12_brothers_10 rfl ?_
    refine f_getA C dX12_brothers_11 fl_KilnBenchModel_153 rfl (by decide) (by decide) (by decide) (by decide) ?_
    refine m_iload_n C dX12_brothers_14 rfl ?_
    obtain ⟨hb, h⟩ := h
    refine f_iald C dX12_brothers_15 (m_arO (a := 0) (len := 176) rfl rfl) (by decide) hb ?_
    refine m_iconst C dX12_brothers_16 (by unfold in32; omega) ?_
    refine m_icmp_ne (tgt := 24) C dX12_brothers_17 (by decide) (fun c => ?_) (fun c => ?_)
    · have h := h.1 c
      refine m_iconst C dX12_brothers_24 (by unfold in32; omega) ?_
      refine m_iload_n C dX12_brothers_25 rfl ?_
      refine m_ishl C dX12_brothers_26 ?_
      refine n_istore_n (fun x3 => [some (vR 34 0), some (vI a1), some (vI x3), none, none, none]) C dX12_brothers_27 (by decide) (fun _ => rfl) (fun x3 ex3 => ?_)
      have h := h x3 ex3
      refine m_iconst C dX12_brothers_28 (by unfold in32; omega) ?_
      refine o_istore_n [some (vR 34 0), some (vI a1), some (vI x3), some (vI 1), none, none] C dX12_brothers_29 (by decide) rfl ?_
      exact h
    · have h := h.2 c
      refine m_iconst C dX12_brothers_20 (by unfold in32; omega) ?_
      refine m_goto (tgt := 27) C dX12_brothers_21 (by decide) ?_
      refine o_istore_n [some (vR 34 0), some (vI a1), some (vI 0), none, none, none] C dX12_brothers_27 (by decide) rfl ?_
      refine m_iconst C dX12_brothers_28 (by unfold in32; omega) ?_
      refine o_istore_n [some (vR 34 0), some (vI a1), some (vI 0), some (vI 1), none, none] C dX12_brothers_29 (by decide) rfl ?_
      exact h
  · have h := h.2 c
    refine m_iconst C dX12_brothers_8 (by unfold in32; omega) ?_
    exact f_iret C R rfl dX12_brothers_9 h

set_option maxRecDepth 20000 in
theorem VX12_brothers_30 {G : m_G} {X : m_X} {d : Nat} {K : Int → m_M → Prop} (C : mC G X YX12_brothers (d + 1)) (R : r_i G X K) {μ : m_M} {a1 : Int} {l2 : Int} {l3 : Int}
    (h : ((l3 = 0) → K l2 μ) ∧ ((¬ l3 = 0) → mW G X YX12_brothers μ 40 [some (vR 34 0), some (vI a1), some (vI l2), some (vI l3), some (vI l2), some (vI 0)] [])) :
    mW G X YX12_brothers μ 30 [some (vR 34 0), some (vI a1), some (vI l2), some (vI l3), none, none] [] := by
  refine m_iload_n C dX12_brothers_30 rfl ?_
  refine m_if_eq (tgt := 103) C dX12_brothers_31 (by decide) (fun c => ?_) (fun c => ?_)
  · have h := h.1 c
    refine m_iload_n C dX12_brothers_103 rfl ?_
    exact f_iret C R rfl dX12_brothers_104 h
  · have h := h.2 c
    refine m_iload_n C dX12_brothers_34 rfl ?_
    refine o_istore [some (vR 34 0), some (vI a1), some (vI l2), some (vI l3), some (vI l2), none] C dX12_brothers_35 (by decide) rfl ?_
    refine m_iconst C dX12_brothers_37 (by unfold in32; omega) ?_
    refine o_istore [some (vR 34 0), some (vI a1), some (vI l2), some (vI l3), some (vI l2), some (vI 0)] C dX12_brothers_38 (by decide) rfl ?_
    exact h

set_option maxRecDepth 20000 in
theorem VX12_brothers_40 {G : m_G} {X : m_X} {d : Nat} {K : Int → m_M → Prop} (C : mC G X YX12_brothers (d + 1)) (R : r_i G X K) {μ : m_M} {a1 : Int} {l2 : Int} {l3 : Int} {l4 : Int} {l5 : Int}
    (h : (0 ≤ μ 34 0 13 ∧ μ 34 0 13 < 2) ∧ ((μ 34 15 (μ 34 0 13).toNat ≤ l5) → ((l4 = l2) → mW G X YX12_brothers μ 30 [some (vR 34 0), some (vI a1), some (vI l4), some (vI 0), none, none] []) ∧ ((¬ l4 = l2) → mW G X YX12_brothers μ 30 [some (vR 34 0), some (vI a1), some (vI l4), some (vI 1), none, none] [])) ∧ ((¬ μ 34 15 (μ 34 0 13).toNat ≤ l5) → c_i G d YX12_has2 [vI l2, vI l5] μ (fun r6 μ5 => ((r6 = 0) → ∀ x7 : Int, x7 = i_or l4 0 → ∀ x8 : Int, x8 = w32 (l5 + 1) → mW G X YX12_brothers μ5 40 [some (vR 34 0), some (vI a1), some (vI l2), some (vI l3), some (vI x7), some (vI x8)] []) ∧ ((¬ r6 = 0) → (0 ≤ l5 ∧ l5 < 176) ∧ ∀ x9 : Int, x9 = i_or l4 (μ5 34 48 l5.toNat) → ∀ x10 : Int, x10 = w32 (l5 + 1) → mW G X YX12_brothers μ5 40 [some (vR 34 0), some (vI a1), some (vI l2), some (vI l3), some (vI x9), some (vI x10)] [])))) :
    mW G X YX12_brothers μ 40 [some (vR 34 0), some (vI a1), some (vI l2), some (vI l3), some (vI l4), some (vI l5)] [] := by
  refine m_iload C dX12_brothers_40 rfl ?_
  refine m_aload_n C dX12_brothers_42 rfl ?_
  refine f_getA C dX12_brothers_43 fl_KilnBenchModel_54 rfl (by decide) (by decide) (by decide) (by decide) ?_
  refine m_aload_n C dX12_brothers_46 rfl ?_
  refine f_getI C dX12_brothers_47 fl_KilnBenchModel_51 rfl (by decide) (by decide) ?_
  obtain ⟨hb, h⟩ := h
  refine f_iald C dX12_brothers_50 (m_arO (a := 0) (len := 2) rfl rfl) (by decide) hb ?_
  refine m_icmp_ge (tgt := 85) C dX12_brothers_51 (by decide) (fun c => ?_) (fun c => ?_)
  · have h := h.1 c
    refine m_iload C dX12_brothers_85 rfl ?_
    refine m_iload_n C dX12_brothers_87 rfl ?_
    refine m_icmp_eq (tgt := 95) C dX12_brothers_88 (by decide) (fun c => ?_) (fun c => ?_)
    · have h := h.1 c
      refine m_iconst C dX12_brothers_95 (by unfold in32; omega) ?_
      refine o_istore_n [some (vR 34 0), some (vI a1), some (vI l2), some (vI 0), some (vI l4), some (vI l5)] C dX12_brothers_96 (by decide) rfl ?_
      refine m_iload C dX12_brothers_97 rfl ?_
      refine o_istore_n [some (vR 34 0), some (vI a1), some (vI l4), some (vI 0), some (vI l4), some (vI l5)] C dX12_brothers_99 (by decide) rfl ?_
      refine m_goto (tgt := 30) C dX12_brothers_100 (by decide) ?_
      exact n_weak (le_same (le_same (le_same (le_same (le_none (le_none le_nil)))))) h
    · have h := h.2 c
      refine m_iconst C dX12_brothers_91 (by unfold in32; omega) ?_
      refine m_goto (tgt := 96) C dX12_brothers_92 (by decide) ?_
      refine o_istore_n [some (vR 34 0), some (vI a1), some (vI l2), some (vI 1), some (vI l4), some (vI l5)] C dX12_brothers_96 (by decide) rfl ?_
      refine m_iload C dX12_brothers_97 rfl ?_
      refine o_istore_n [some (vR 34 0), some (vI a1), some (vI l4), some (vI 1), some (vI l4), some (vI l5)] C dX12_brothers_99 (by decide) rfl ?_
      refine m_goto (tgt := 30) C dX12_brothers_100 (by decide) ?_
      exact n_weak (le_same (le_same (le_same (le_same (le_none (le_none le_nil)))))) h
  · have h := h.2 c
    refine m_iload C dX12_brothers_54 rfl ?_
    refine m_iload_n C dX12_brothers_56 rfl ?_
    refine m_iload C dX12_brothers_57 rfl ?_
    refine f_callSi (As := [vI l2, vI l5]) (st := [vI l4]) C dX12_brothers_59 ml_KilnBenchModel_458 rfl rfl (Nat.le_of_ble_eq_true rfl) h (fun r6 μ5 h => ?_)
    refine m_if_eq (tgt := 75) C dX12_brothers_62 (by decide) (fun c => ?_) (fun c => ?_)
    · have h := h.1 c
      refine m_iconst C dX12_brothers_75 (by unfold in32; omega) ?_
      refine m_ior C dX12_brothers_76 ?_
      refine n_istore (fun x7 => [some (vR 34 0), some (vI a1), some (vI l2), some (vI l3), some (vI x7), some (vI l5)]) C dX12_brothers_77 (by decide) (fun _ => rfl) (fun x7 ex7 => ?_)
      have h := h x7 ex7
      refine n_iinc (fun x8 => [some (vR 34 0), some (vI a1), some (vI l2), some (vI l3), some (vI x7), some (vI x8)]) C dX12_brothers_79 rfl (by decide) (fun _ => rfl) (fun x8 ex8 => ?_)
      have h := h x8 ex8
      refine m_goto (tgt := 40) C dX12_brothers_82 (by decide) ?_
      exact h
    · have h := h.2 c
      refine m_aload_n C dX12_brothers_65 rfl ?_
      refine f_getA C dX12_brothers_66 fl_KilnBenchModel_156 rfl (by decide) (by decide) (by decide) (by decide) ?_
      refine m_iload C dX12_brothers_69 rfl ?_
      obtain ⟨hb, h⟩ := h
      refine f_iald C dX12_brothers_71 (m_arO (a := 0) (len := 176) rfl rfl) (by decide) hb ?_
      refine m_goto (tgt := 76) C dX12_brothers_72 (by decide) ?_
      refine m_ior C dX12_brothers_76 ?_
      refine n_istore (fun x9 => [some (vR 34 0), some (vI a1), some (vI l2), some (vI l3), some (vI x9), some (vI l5)]) C dX12_brothers_77 (by decide) (fun _ => rfl) (fun x9 ex9 => ?_)
      have h := h x9 ex9
      refine n_iinc (fun x10 => [some (vR 34 0), some (vI a1), some (vI l2), some (vI l3), some (vI x9), some (vI x10)]) C dX12_brothers_79 rfl (by decide) (fun _ => rfl) (fun x10 ex10 => ?_)
      have h := h x10 ex10
      refine m_goto (tgt := 40) C dX12_brothers_82 (by decide) ?_
      exact h

set_option maxRecDepth 20000 in
theorem VX12_isAhead_0 {G : m_G} {X : m_X} {d : Nat} {K : Int → m_M → Prop} (C : mC G X YX12_isAhead (d + 1)) (R : r_i G X K) {μ : m_M} {a1 : Int} {a2 : Int} {a3 : Int}
    (h : c_i G d YX12_is [vI a1, vI a2, vI a3] μ (fun r2 μ1 => ((r2 = 0) → K 0 μ1) ∧ ((¬ r2 = 0) → ((w32 (999 - a1) < μ1 34 43 0) → K 0 μ1) ∧ ((¬ w32 (999 - a1) < μ1 34 43 0) → K 1 μ1)))) :
    mW G X YX12_isAhead μ 0 [some (vR 34 0), some (vI a1), some (vI a2), some (vI a3)] [] := by
  refine m_iload_n C dX12_isAhead_0 rfl ?_
  refine m_iload_n C dX12_isAhead_1 rfl ?_
  refine m_iload_n C dX12_isAhead_2 rfl ?_
  refine f_callSi (As := [vI a1, vI a2, vI a3]) (st := []) C dX12_isAhead_3 ml_KilnBenchModel_296 rfl rfl (Nat.le_of_ble_eq_true rfl) h (fun r2 μ1 h => ?_)
  refine m_if_eq (tgt := 27) C dX12_isAhead_6 (by decide) (fun c => ?_) (fun c => ?_)
  · have h := h.1 c
    refine m_iconst C dX12_isAhead_27 (by unfold in32; omega) ?_
    exact f_zret C R rfl dX12_isAhead_28 (by decide) h
  · have h := h.2 c
    refine m_aload_n C dX12_isAhead_9 rfl ?_
    refine f_getA C dX12_isAhead_10 fl_KilnBenchModel_141 rfl (by decide) (by decide) (by decide) (by decide) ?_
    refine m_iconst C dX12_isAhead_13 (by unfold in32; omega) ?_
    refine f_iald C dX12_isAhead_14 (m_arO (a := 0) (len := 22) rfl rfl) (by decide) (by decide) ?_
    refine m_sipush C dX12_isAhead_15 (by omega) ?_
    refine m_iload_n C dX12_isAhead_18 rfl ?_
    refine m_isub C dX12_isAhead_19 ?_
    refine m_icmp_gt (tgt := 27) C dX12_isAhead_20 (by decide) (fun c => ?_) (fun c => ?_)
    · have h := h.1 c
      refine m_iconst C dX12_isAhead_27 (by unfold in32; omega) ?_
      exact f_zret C R rfl dX12_isAhead_28 (by decide) h
    · have h := h.2 c
      refine m_iconst C dX12_isAhead_23 (by unfold in32; omega) ?_
      refine m_goto (tgt := 28) C dX12_isAhead_24 (by decide) ?_
      exact f_zret C R rfl dX12_isAhead_28 (by decide) h

set_option maxRecDepth 20000 in
theorem VX12_tries_0 {G : m_G} {X : m_X} {d : Nat} {K : m_M → Prop} (C : mC G X YX12_tries (d + 1)) (R : r_v G X K) {μ : m_M} {a1 : Int}
    (h : c_v G d YX12_copies [vR 34 0, vI 1, vI 0] μ (fun μ1 => mW G X YX12_tries μ1 8 [some (vR 34 0), some (vI a1), some (vI 0)] [])) :
    mW G X YX12_tries μ 0 [some (vR 34 0), some (vI a1), none] [] := by
  refine m_aload_n C dX12_tries_0 rfl ?_
  refine m_iconst C dX12_tries_1 (by unfold in32; omega) ?_
  refine m_iconst C dX12_tries_2 (by unfold in32; omega) ?_
  refine f_callVv (As := [vI 1, vI 0]) (st := []) C dX12_tries_3 ml_KilnBenchModel_386 rfl (by decide) rfl rfl rfl (Nat.le_of_ble_eq_true rfl) h (fun μ1 h => ?_)
  refine m_iconst C dX12_tries_6 (by unfold in32; omega) ?_
  refine o_istore_n [some (vR 34 0), some (vI a1), some (vI 0)] C dX12_tries_7 (by decide) rfl ?_
  exact h

set_option maxRecDepth 20000 in
theorem VX12_tries_8 {G : m_G} {X : m_X} {d : Nat} {K : m_M → Prop} (C : mC G X YX12_tries (d + 1)) (R : r_v G X K) {μ : m_M} {a1 : Int} {l2 : Int}
    (h : ((a1 ≤ l2) → K μ) ∧ ((¬ a1 ≤ l2) → c_v G d YX12_ticks [vR 34 0, vI 1, vI 0] μ (fun μ1 => ∀ x2 : Int, x2 = w32 (l2 + 1) → mW G X YX12_tries μ1 8 [some (vR 34 0), some (vI a1), some (vI x2)] []))) :
    mW G X YX12_tries μ 8 [some (vR 34 0), some (vI a1), some (vI l2)] [] := by
  refine m_iload_n C dX12_tries_8 rfl ?_
  refine m_iload_n C dX12_tries_9 rfl ?_
  refine m_icmp_ge (tgt := 25) C dX12_tries_10 (by decide) (fun c => ?_) (fun c => ?_)
  · have h := h.1 c
    exact f_vret C R rfl dX12_tries_25 h
  · have h := h.2 c
    refine m_aload_n C dX12_tries_13 rfl ?_
    refine m_iconst C dX12_tries_14 (by unfold in32; omega) ?_
    refine m_iconst C dX12_tries_15 (by unfold in32; omega) ?_
    refine f_callVv (As := [vI 1, vI 0]) (st := []) C dX12_tries_16 ml_KilnBenchModel_480 rfl (by decide) rfl rfl rfl (Nat.le_of_ble_eq_true rfl) h (fun μ1 h => ?_)
    refine n_iinc (fun x2 => [some (vR 34 0), some (vI a1), some (vI x2)]) C dX12_tries_19 rfl (by decide) (fun _ => rfl) (fun x2 ex2 => ?_)
    have h := h x2 ex2
    refine m_goto (tgt := 8) C dX12_tries_22 (by decide) ?_
    exact h

set_option maxRecDepth 20000 in
theorem VX12_fired_0 {G : m_G} {X : m_X} {d : Nat} {K : Int → m_M → Prop} (C : mC G X YX12_fired (d + 1)) (R : r_i G X K) {μ : m_M} {a1 : Int}
    (h : c_i G d YX12_isKiln [vR 34 0, vI a1] μ (fun r2 μ1 => ((¬ r2 = 0) → c_v G d YX12_copies [vR 34 0, vI 1, vI 0] μ1 (fun μ3 => mW G X YX12_fired μ3 18 [some (vR 34 0), some (vI a1), some (vI 0)] [])) ∧ ((r2 = 0) → K (-1) μ1))) :
    mW G X YX12_fired μ 0 [some (vR 34 0), some (vI a1), none] [] := by
  refine m_aload_n C dX12_fired_0 rfl ?_
  refine m_iload_n C dX12_fired_1 rfl ?_
  refine f_callVi (As := [vI a1]) (st := []) C dX12_fired_2 ml_KilnBenchModel_447 rfl (by decide) rfl rfl rfl (Nat.le_of_ble_eq_true rfl) h (fun r2 μ1 h => ?_)
  refine m_if_ne (tgt := 10) C dX12_fired_5 (by decide) (fun c => ?_) (fun c => ?_)
  · have h := h.1 c
    refine m_aload_n C dX12_fired_10 rfl ?_
    refine m_iconst C dX12_fired_11 (by unfold in32; omega) ?_
    refine m_iconst C dX12_fired_12 (by unfold in32; omega) ?_
    refine f_callVv (As := [vI 1, vI 0]) (st := []) C dX12_fired_13 ml_KilnBenchModel_386 rfl (by decide) rfl rfl rfl (Nat.le_of_ble_eq_true rfl) h (fun μ3 h => ?_)
    refine m_iconst C dX12_fired_16 (by unfold in32; omega) ?_
    refine o_istore_n [some (vR 34 0), some (vI a1), some (vI 0)] C dX12_fired_17 (by decide) rfl ?_
    exact h
  · have h := h.2 c
    refine m_iconst C dX12_fired_8 (by unfold in32; omega) ?_
    exact f_iret C R rfl dX12_fired_9 h

set_option maxRecDepth 20000 in
theorem VX12_fired_18 {G : m_G} {X : m_X} {d : Nat} {K : Int → m_M → Prop} (C : mC G X YX12_fired (d + 1)) (R : r_i G X K) {μ : m_M} {a1 : Int} {l2 : Int}
    (h : c_i G d YX12_isAhead [vR 34 0, vI (w32 (l2 + 1)), vI 1, vI 40] μ (fun r2 μ1 => ((r2 = 0) → K (-1) μ1) ∧ ((¬ r2 = 0) → c_v G d YX12_ticks [vR 34 0, vI 1, vI 0] μ1 (fun μ3 => c_i G d YX12_has2 [vI (μ3 34 0 57), vI a1] μ3 (fun r5 μ4 => ((r5 = 0) → ∀ x6 : Int, x6 = w32 (l2 + 1) → mW G X YX12_fired μ4 18 [some (vR 34 0), some (vI a1), some (vI x6)] []) ∧ ((¬ r5 = 0) → K l2 μ4)))))) :
    mW G X YX12_fired μ 18 [some (vR 34 0), some (vI a1), some (vI l2)] [] := by
  refine m_aload_n C dX12_fired_18 rfl ?_
  refine m_iload_n C dX12_fired_19 rfl ?_
  refine m_iconst C dX12_fired_20 (by unfold in32; omega) ?_
  refine m_iadd C dX12_fired_21 ?_
  refine m_iconst C dX12_fired_22 (by unfold in32; omega) ?_
  refine m_bipush C dX12_fired_23 (by omega) ?_
  refine f_callVi (As := [vI (w32 (l2 + 1)), vI 1, vI 40]) (st := []) C dX12_fired_25 ml_KilnBenchModel_483 rfl (by decide) rfl rfl rfl (Nat.le_of_ble_eq_true rfl) h (fun r2 μ1 h => ?_)
  refine m_if_eq (tgt := 56) C dX12_fired_28 (by decide) (fun c => ?_) (fun c => ?_)
  · have h := h.1 c
    refine m_iconst C dX12_fired_56 (by unfold in32; omega) ?_
    exact f_iret C R rfl dX12_fired_57 h
  · have h := h.2 c
    refine m_aload_n C dX12_fired_31 rfl ?_
    refine m_iconst C dX12_fired_32 (by unfold in32; omega) ?_
    refine m_iconst C dX12_fired_33 (by unfold in32; omega) ?_
    refine f_callVv (As := [vI 1, vI 0]) (st := []) C dX12_fired_34 ml_KilnBenchModel_480 rfl (by decide) rfl rfl rfl (Nat.le_of_ble_eq_true rfl) h (fun μ3 h => ?_)
    refine m_aload_n C dX12_fired_37 rfl ?_
    refine f_getI C dX12_fired_38 fl_KilnBenchModel_186 rfl (by decide) (by decide) ?_
    refine m_iload_n C dX12_fired_41 rfl ?_
    refine f_callSi (As := [vI (μ3 34 0 57), vI a1]) (st := []) C dX12_fired_42 ml_KilnBenchModel_458 rfl rfl (Nat.le_of_ble_eq_true rfl) h (fun r5 μ4 h => ?_)
    refine m_if_eq (tgt := 50) C dX12_fired_45 (by decide) (fun c => ?_) (fun c => ?_)
    · have h := h.1 c
      refine n_iinc (fun x6 => [some (vR 34 0), some (vI a1), some (vI x6)]) C dX12_fired_50 rfl (by decide) (fun _ => rfl) (fun x6 ex6 => ?_)
      have h := h x6 ex6
      refine m_goto (tgt := 18) C dX12_fired_53 (by decide) ?_
      exact h
    · have h := h.2 c
      refine m_iload_n C dX12_fired_48 rfl ?_
      exact f_iret C R rfl dX12_fired_49 h

set_option maxRecDepth 20000 in
theorem VX12_fuel_0 {G : m_G} {X : m_X} {d : Nat} {K : Int → m_M → Prop} (C : mC G X YX12_fuel (d + 1)) (R : r_i G X K) {μ : m_M} {a1 : Int}
    (h : c_i G d YX12_isAhead [vR 34 0, vI a1, vI 0, vI 40] μ (fun r2 μ1 => ((¬ r2 = 0) → c_v G d YX12_tries [vR 34 0, vI a1] μ1 (fun μ3 => K (μ3 34 44 1) μ3)) ∧ ((r2 = 0) → K (-1) μ1))) :
    mW G X YX12_fuel μ 0 [some (vR 34 0), some (vI a1)] [] := by
  refine m_aload_n C dX12_fuel_0 rfl ?_
  refine m_iload_n C dX12_fuel_1 rfl ?_
  refine m_iconst C dX12_fuel_2 (by unfold in32; omega) ?_
  refine m_bipush C dX12_fuel_3 (by omega) ?_
  refine f_callVi (As := [vI a1, vI 0, vI 40]) (st := []) C dX12_fuel_5 ml_KilnBenchModel_483 rfl (by decide) rfl rfl rfl (Nat.le_of_ble_eq_true rfl) h (fun r2 μ1 h => ?_)
  refine m_if_ne (tgt := 13) C dX12_fuel_8 (by decide) (fun c => ?_) (fun c => ?_)
  · have h := h.1 c
    refine m_aload_n C dX12_fuel_13 rfl ?_
    refine m_iload_n C dX12_fuel_14 rfl ?_
    refine f_callVv (As := [vI a1]) (st := []) C dX12_fuel_15 ml_KilnBenchModel_486 rfl (by decide) rfl rfl rfl (Nat.le_of_ble_eq_true rfl) h (fun μ3 h => ?_)
    refine m_aload_n C dX12_fuel_18 rfl ?_
    refine f_getA C dX12_fuel_19 fl_KilnBenchModel_144 rfl (by decide) (by decide) (by decide) (by decide) ?_
    refine m_iconst C dX12_fuel_22 (by unfold in32; omega) ?_
    refine f_iald C dX12_fuel_23 (m_arO (a := 0) (len := 22) rfl rfl) (by decide) (by decide) ?_
    exact f_iret C R rfl dX12_fuel_24 h
  · have h := h.2 c
    refine m_iconst C dX12_fuel_11 (by unfold in32; omega) ?_
    exact f_iret C R rfl dX12_fuel_12 h

set_option maxRecDepth 20000 in
theorem VX12_later_0 {G : m_G} {X : m_X} {d : Nat} {K : Int → m_M → Prop} (C : mC G X YX12_later (d + 1)) (R : r_i G X K) {μ : m_M} {a1 : Int} {a2 : Int}
    (h : c_i G d YX12_isChild [vR 34 0, vI a1] μ (fun r2 μ1 => ((r2 = 0) → K (-1) μ1) ∧ ((¬ r2 = 0) → c_i G d YX12_isAhead [vR 34 0, vI a2, vI 0, vI 40] μ1 (fun r4 μ3 => ((¬ r4 = 0) → c_v G d YX12_tries [vR 34 0, vI a2] μ3 (fun μ5 => (0 ≤ w32 (8 + a1) ∧ w32 (8 + a1) < 176) ∧ K (μ5 34 47 (w32 (8 + a1)).toNat) μ5)) ∧ ((r4 = 0) → K (-1) μ3))))) :
    mW G X YX12_later μ 0 [some (vR 34 0), some (vI a1), some (vI a2)] [] := by
  refine m_aload_n C dX12_later_0 rfl ?_
  refine m_iload_n C dX12_later_1 rfl ?_
  refine f_callVi (As := [vI a1]) (st := []) C dX12_later_2 ml_KilnBenchModel_453 rfl (by decide) rfl rfl rfl (Nat.le_of_ble_eq_true rfl) h (fun r2 μ1 h => ?_)
  refine m_if_eq (tgt := 19) C dX12_later_5 (by decide) (fun c => ?_) (fun c => ?_)
  · have h := h.1 c
    refine m_iconst C dX12_later_19 (by unfold in32; omega) ?_
    exact f_iret C R rfl dX12_later_20 h
  · have h := h.2 c
    refine m_aload_n C dX12_later_8 rfl ?_
    refine m_iload_n C dX12_later_9 rfl ?_
    refine m_iconst C dX12_later_10 (by unfold in32; omega) ?_
    refine m_bipush C dX12_later_11 (by omega) ?_
    refine f_callVi (As := [vI a2, vI 0, vI 40]) (st := []) C dX12_later_13 ml_KilnBenchModel_483 rfl (by decide) rfl rfl rfl (Nat.le_of_ble_eq_true rfl) h (fun r4 μ3 h => ?_)
    refine m_if_ne (tgt := 21) C dX12_later_16 (by decide) (fun c => ?_) (fun c => ?_)
    · have h := h.1 c
      refine m_aload_n C dX12_later_21 rfl ?_
      refine m_iload_n C dX12_later_22 rfl ?_
      refine f_callVv (As := [vI a2]) (st := []) C dX12_later_23 ml_KilnBenchModel_486 rfl (by decide) rfl rfl rfl (Nat.le_of_ble_eq_true rfl) h (fun μ5 h => ?_)
      refine m_aload_n C dX12_later_26 rfl ?_
      refine f_getA C dX12_later_27 fl_KilnBenchModel_153 rfl (by decide) (by decide) (by decide) (by decide) ?_
      refine m_bipush C dX12_later_30 (by omega) ?_
      refine m_iload_n C dX12_later_32 rfl ?_
      refine m_iadd C dX12_later_33 ?_
      obtain ⟨hb, h⟩ := h
      refine f_iald C dX12_later_34 (m_arO (a := 0) (len := 176) rfl rfl) (by decide) hb ?_
      exact f_iret C R rfl dX12_later_35 h
    · have h := h.2 c
      refine m_iconst C dX12_later_19 (by unfold in32; omega) ?_
      exact f_iret C R rfl dX12_later_20 h

set_option maxRecDepth 20000 in
theorem VX12_odds_0 {G : m_G} {X : m_X} {d : Nat} {K : Int → m_M → Prop} (C : mC G X YX12_odds (d + 1)) (R : r_i G X K) {μ : m_M} {a1 : Int}
    (h : c_i G d YX12_isChild [vR 34 0, vI a1] μ (fun r2 μ1 => ((r2 = 0) → K (-1) μ1) ∧ ((¬ r2 = 0) → (0 ≤ a1 ∧ a1 < 176) ∧ ((μ1 34 45 a1.toNat = (-1)) → K (-1) μ1) ∧ ((¬ μ1 34 45 a1.toNat = (-1)) → (0 ≤ a1 ∧ a1 < 176) ∧ (0 ≤ μ1 34 45 a1.toNat ∧ μ1 34 45 a1.toNat < 66) ∧ ((μ1 34 50 (μ1 34 45 a1.toNat).toNat = (-1)) → K (-1) μ1) ∧ ((¬ μ1 34 50 (μ1 34 45 a1.toNat).toNat = (-1)) → c_i G d YX12_isAhead [vR 34 0, vI 1, vI 1, vI 1] μ1 (fun r4 μ3 => ((¬ r4 = 0) → mW G X YX12_odds μ3 49 [some (vR 34 0), some (vI a1), some (vI 0), some (vI 0), none] []) ∧ ((r4 = 0) → K (-1) μ3))))))) :
    mW G X YX12_odds μ 0 [some (vR 34 0), some (vI a1), none, none, none] [] := by
  refine m_aload_n C dX12_odds_0 rfl ?_
  refine m_iload_n C dX12_odds_1 rfl ?_
  refine f_callVi (As := [vI a1]) (st := []) C dX12_odds_2 ml_KilnBenchModel_453 rfl (by decide) rfl rfl rfl (Nat.le_of_ble_eq_true rfl) h (fun r2 μ1 h => ?_)
  refine m_if_eq (tgt := 43) C dX12_odds_5 (by decide) (fun c => ?_) (fun c => ?_)
  · have h := h.1 c
    refine m_iconst C dX12_odds_43 (by unfold in32; omega) ?_
    exact f_iret C R rfl dX12_odds_44 h
  · have h := h.2 c
    refine m_aload_n C dX12_odds_8 rfl ?_
    refine f_getA C dX12_odds_9 fl_KilnBenchModel_147 rfl (by decide) (by decide) (by decide) (by decide) ?_
    refine m_iload_n C dX12_odds_12 rfl ?_
    obtain ⟨hb, h⟩ := h
    refine f_iald C dX12_odds_13 (m_arO (a := 0) (len := 176) rfl rfl) (by decide) hb ?_
    refine m_iconst C dX12_odds_14 (by unfold in32; omega) ?_
    refine m_icmp_eq (tgt := 43) C dX12_odds_15 (by decide) (fun c => ?_) (fun c => ?_)
    · have h := h.1 c
      refine m_iconst C dX12_odds_43 (by unfold in32; omega) ?_
      exact f_iret C R rfl dX12_odds_44 h
    · have h := h.2 c
      refine m_aload_n C dX12_odds_18 rfl ?_
      refine f_getA C dX12_odds_19 fl_KilnBenchModel_162 rfl (by decide) (by decide) (by decide) (by decide) ?_
      refine m_aload_n C dX12_odds_22 rfl ?_
      refine f_getA C dX12_odds_23 fl_KilnBenchModel_147 rfl (by decide) (by decide) (by decide) (by decide) ?_
      refine m_iload_n C dX12_odds_26 rfl ?_
      obtain ⟨hb, h⟩ := h
      refine f_iald C dX12_odds_27 (m_arO (a := 0) (len := 176) rfl rfl) (by decide) hb ?_
      obtain ⟨hb, h⟩ := h
      refine f_iald C dX12_odds_28 (m_arO (a := 0) (len := 66) rfl rfl) (by decide) hb ?_
      refine m_iconst C dX12_odds_29 (by unfold in32; omega) ?_
      refine m_icmp_eq (tgt := 43) C dX12_odds_30 (by decide) (fun c => ?_) (fun c => ?_)
      · have h := h.1 c
        refine m_iconst C dX12_odds_43 (by unfold in32; omega) ?_
        exact f_iret C R rfl dX12_odds_44 h
      · have h := h.2 c
        refine m_aload_n C dX12_odds_33 rfl ?_
        refine m_iconst C dX12_odds_34 (by unfold in32; omega) ?_
        refine m_iconst C dX12_odds_35 (by unfold in32; omega) ?_
        refine m_iconst C dX12_odds_36 (by unfold in32; omega) ?_
        refine f_callVi (As := [vI 1, vI 1, vI 1]) (st := []) C dX12_odds_37 ml_KilnBenchModel_483 rfl (by decide) rfl rfl rfl (Nat.le_of_ble_eq_true rfl) h (fun r4 μ3 h => ?_)
        refine m_if_ne (tgt := 45) C dX12_odds_40 (by decide) (fun c => ?_) (fun c => ?_)
        · have h := h.1 c
          refine m_iconst C dX12_odds_45 (by unfold in32; omega) ?_
          refine o_istore_n [some (vR 34 0), some (vI a1), some (vI 0), none, none] C dX12_odds_46 (by decide) rfl ?_
          refine m_iconst C dX12_odds_47 (by unfold in32; omega) ?_
          refine o_istore_n [some (vR 34 0), some (vI a1), some (vI 0), some (vI 0), none] C dX12_odds_48 (by decide) rfl ?_
          exact h
        · have h := h.2 c
          refine m_iconst C dX12_odds_43 (by unfold in32; omega) ?_
          exact f_iret C R rfl dX12_odds_44 h

set_option maxRecDepth 20000 in
theorem VX12_odds_49 {G : m_G} {X : m_X} {d : Nat} {K : Int → m_M → Prop} (C : mC G X YX12_odds (d + 1)) (R : r_i G X K) {μ : m_M} {a1 : Int} {l2 : Int} {l3 : Int}
    (h : ((3 < l3) → K l2 μ) ∧ ((¬ 3 < l3) → c_v G d YX12_copies [vR 34 0, vI 1, vI 0] μ (fun μ1 => c_v G d YX12_ticks [vR 34 0, vI 1, vI l3] μ1 (fun μ2 => ((¬ l3 = 0) → (0 ≤ μ2 34 0 13 ∧ μ2 34 0 13 < 2) ∧ ∀ x3 : Int, x3 = μ2 34 22 (μ2 34 0 13).toNat → c_i G d YX12_has2 [vI (μ2 34 49 1), vI a1] μ2 (fun r5 μ4 => ((r5 = 0) → ∀ x6 : Int, x6 = w32 (l2 + 0) → ∀ x7 : Int, x7 = w32 (l3 + 1) → mW G X YX12_odds μ4 49 [some (vR 34 0), some (vI a1), some (vI x6), some (vI x7), none] []) ∧ ((¬ r5 = 0) → ∀ x8 : Int, x8 = w32 (l2 + x3) → ∀ x9 : Int, x9 = w32 (l3 + 1) → mW G X YX12_odds μ4 49 [some (vR 34 0), some (vI a1), some (vI x8), some (vI x9), none] []))) ∧ ((l3 = 0) → (0 ≤ μ2 34 0 13 ∧ μ2 34 0 13 < 2) ∧ ∀ x10 : Int, x10 = w32 (3 * (w32 (100 - (μ2 34 22 (μ2 34 0 13).toNat)))) → c_i G d YX12_has2 [vI (μ2 34 49 1), vI a1] μ2 (fun r12 μ11 => ((r12 = 0) → ∀ x13 : Int, x13 = w32 (l2 + 0) → ∀ x14 : Int, x14 = w32 (l3 + 1) → mW G X YX12_odds μ11 49 [some (vR 34 0), some (vI a1), some (vI x13), some (vI x14), none] []) ∧ ((¬ r12 = 0) → ∀ x15 : Int, x15 = w32 (l2 + x10) → ∀ x16 : Int, x16 = w32 (l3 + 1) → mW G X YX12_odds μ11 49 [some (vR 34 0), some (vI a1), some (vI x15), some (vI x16), none] []))))))) :
    mW G X YX12_odds μ 49 [some (vR 34 0), some (vI a1), some (vI l2), some (vI l3), none] [] := by
  refine m_iload_n C dX12_odds_49 rfl ?_
  refine m_iconst C dX12_odds_50 (by unfold in32; omega) ?_
  refine m_icmp_gt (tgt := 126) C dX12_odds_51 (by decide) (fun c => ?_) (fun c => ?_)
  · have h := h.1 c
    refine m_iload_n C dX12_odds_126 rfl ?_
    exact f_iret C R rfl dX12_odds_127 h
  · have h := h.2 c
    refine m_aload_n C dX12_odds_54 rfl ?_
    refine m_iconst C dX12_odds_55 (by unfold in32; omega) ?_
    refine m_iconst C dX12_odds_56 (by unfold in32; omega) ?_
    refine f_callVv (As := [vI 1, vI 0]) (st := []) C dX12_odds_57 ml_KilnBenchModel_386 rfl (by decide) rfl rfl rfl (Nat.le_of_ble_eq_true rfl) h (fun μ1 h => ?_)
    refine m_aload_n C dX12_odds_60 rfl ?_
    refine m_iconst C dX12_odds_61 (by unfold in32; omega) ?_
    refine m_iload_n C dX12_odds_62 rfl ?_
    refine f_callVv (As := [vI 1, vI l3]) (st := []) C dX12_odds_63 ml_KilnBenchModel_480 rfl (by decide) rfl rfl rfl (Nat.le_of_ble_eq_true rfl) h (fun μ2 h => ?_)
    refine m_iload_n C dX12_odds_66 rfl ?_
    refine m_if_ne (tgt := 87) C dX12_odds_67 (by decide) (fun c => ?_) (fun c => ?_)
    · have h := h.1 c
      refine m_aload_n C dX12_odds_87 rfl ?_
      refine f_getA C dX12_odds_88 fl_KilnBenchModel_75 rfl (by decide) (by decide) (by decide) (by decide) ?_
      refine m_aload_n C dX12_odds_91 rfl ?_
      refine f_getI C dX12_odds_92 fl_KilnBenchModel_51 rfl (by decide) (by decide) ?_
      obtain ⟨hb, h⟩ := h
      refine f_iald C dX12_odds_95 (m_arO (a := 0) (len := 2) rfl rfl) (by decide) hb ?_
      refine n_istore (fun x3 => [some (vR 34 0), some (vI a1), some (vI l2), some (vI l3), some (vI x3)]) C dX12_odds_96 (by decide) (fun _ => rfl) (fun x3 ex3 => ?_)
      have h := h x3 ex3
      refine m_iload_n C dX12_odds_98 rfl ?_
      refine m_aload_n C dX12_odds_99 rfl ?_
      refine f_getA C dX12_odds_100 fl_KilnBenchModel_159 rfl (by decide) (by decide) (by decide) (by decide) ?_
      refine m_iconst C dX12_odds_103 (by unfold in32; omega) ?_
      refine f_iald C dX12_odds_104 (m_arO (a := 0) (len := 22) rfl rfl) (by decide) (by decide) ?_
      refine m_iload_n C dX12_odds_105 rfl ?_
      refine f_callSi (As := [vI (μ2 34 49 1), vI a1]) (st := [vI l2]) C dX12_odds_106 ml_KilnBenchModel_458 rfl rfl (Nat.le_of_ble_eq_true rfl) h (fun r5 μ4 h => ?_)
      refine m_if_eq (tgt := 117) C dX12_odds_109 (by decide) (fun c => ?_) (fun c => ?_)
      · have h := h.1 c
        refine m_iconst C dX12_odds_117 (by unfold in32; omega) ?_
        refine m_iadd C dX12_odds_118 ?_
        refine n_istore_n (fun x6 => [some (vR 34 0), some (vI a1), some (vI x6), some (vI l3), some (vI x3)]) C dX12_odds_119 (by decide) (fun _ => rfl) (fun x6 ex6 => ?_)
        have h := h x6 ex6
        refine n_iinc (fun x7 => [some (vR 34 0), some (vI a1), some (vI x6), some (vI x7), some (vI x3)]) C dX12_odds_120 rfl (by decide) (fun _ => rfl) (fun x7 ex7 => ?_)
        have h := h x7 ex7
        refine m_goto (tgt := 49) C dX12_odds_123 (by decide) ?_
        exact n_weak (le_same (le_same (le_same (le_same (le_none le_nil))))) h
      · have h := h.2 c
        refine m_iload C dX12_odds_112 rfl ?_
        refine m_goto (tgt := 118) C dX12_odds_114 (by decide) ?_
        refine m_iadd C dX12_odds_118 ?_
        refine n_istore_n (fun x8 => [some (vR 34 0), some (vI a1), some (vI x8), some (vI l3), some (vI x3)]) C dX12_odds_119 (by decide) (fun _ => rfl) (fun x8 ex8 => ?_)
        have h := h x8 ex8
        refine n_iinc (fun x9 => [some (vR 34 0), some (vI a1), some (vI x8), some (vI x9), some (vI x3)]) C dX12_odds_120 rfl (by decide) (fun _ => rfl) (fun x9 ex9 => ?_)
        have h := h x9 ex9
        refine m_goto (tgt := 49) C dX12_odds_123 (by decide) ?_
        exact n_weak (le_same (le_same (le_same (le_same (le_none le_nil))))) h
    · have h := h.2 c
      refine m_iconst C dX12_odds_70 (by unfold in32; omega) ?_
      refine m_bipush C dX12_odds_71 (by omega) ?_
      refine m_aload_n C dX12_odds_73 rfl ?_
      refine f_getA C dX12_odds_74 fl_KilnBenchModel_75 rfl (by decide) (by decide) (by decide) (by decide) ?_
      refine m_aload_n C dX12_odds_77 rfl ?_
      refine f_getI C dX12_odds_78 fl_KilnBenchModel_51 rfl (by decide) (by decide) ?_
      obtain ⟨hb, h⟩ := h
      refine f_iald C dX12_odds_81 (m_arO (a := 0) (len := 2) rfl rfl) (by decide) hb ?_
      refine m_isub C dX12_odds_82 ?_
      refine m_imul C dX12_odds_83 ?_
      refine m_goto (tgt := 96) C dX12_odds_84 (by decide) ?_
      refine n_istore (fun x10 => [some (vR 34 0), some (vI a1), some (vI l2), some (vI l3), some (vI x10)]) C dX12_odds_96 (by decide) (fun _ => rfl) (fun x10 ex10 => ?_)
      have h := h x10 ex10
      refine m_iload_n C dX12_odds_98 rfl ?_
      refine m_aload_n C dX12_odds_99 rfl ?_
      refine f_getA C dX12_odds_100 fl_KilnBenchModel_159 rfl (by decide) (by decide) (by decide) (by decide) ?_
      refine m_iconst C dX12_odds_103 (by unfold in32; omega) ?_
      refine f_iald C dX12_odds_104 (m_arO (a := 0) (len := 22) rfl rfl) (by decide) (by decide) ?_
      refine m_iload_n C dX12_odds_105 rfl ?_
      refine f_callSi (As := [vI (μ2 34 49 1), vI a1]) (st := [vI l2]) C dX12_odds_106 ml_KilnBenchModel_458 rfl rfl (Nat.le_of_ble_eq_true rfl) h (fun r12 μ11 h => ?_)
      refine m_if_eq (tgt := 117) C dX12_odds_109 (by decide) (fun c => ?_) (fun c => ?_)
      · have h := h.1 c
        refine m_iconst C dX12_odds_117 (by unfold in32; omega) ?_
        refine m_iadd C dX12_odds_118 ?_
        refine n_istore_n (fun x13 => [some (vR 34 0), some (vI a1), some (vI x13), some (vI l3), some (vI x10)]) C dX12_odds_119 (by decide) (fun _ => rfl) (fun x13 ex13 => ?_)
        have h := h x13 ex13
        refine n_iinc (fun x14 => [some (vR 34 0), some (vI a1), some (vI x13), some (vI x14), some (vI x10)]) C dX12_odds_120 rfl (by decide) (fun _ => rfl) (fun x14 ex14 => ?_)
        have h := h x14 ex14
        refine m_goto (tgt := 49) C dX12_odds_123 (by decide) ?_
        exact n_weak (le_same (le_same (le_same (le_same (le_none le_nil))))) h
      · have h := h.2 c
        refine m_iload C dX12_odds_112 rfl ?_
        refine m_goto (tgt := 118) C dX12_odds_114 (by decide) ?_
        refine m_iadd C dX12_odds_118 ?_
        refine n_istore_n (fun x15 => [some (vR 34 0), some (vI a1), some (vI x15), some (vI l3), some (vI x10)]) C dX12_odds_119 (by decide) (fun _ => rfl) (fun x15 ex15 => ?_)
        have h := h x15 ex15
        refine n_iinc (fun x16 => [some (vR 34 0), some (vI a1), some (vI x15), some (vI x16), some (vI x10)]) C dX12_odds_120 rfl (by decide) (fun _ => rfl) (fun x16 ex16 => ?_)
        have h := h x16 ex16
        refine m_goto (tgt := 49) C dX12_odds_123 (by decide) ?_
        exact n_weak (le_same (le_same (le_same (le_same (le_none le_nil))))) h

set_option maxRecDepth 20000 in
theorem VX12_see_0 {G : m_G} {X : m_X} {d : Nat} {K : Int → m_M → Prop} (C : mC G X YX12_see (d + 1)) (R : r_i G X K) {μ : m_M}
    (h : ∀ x1 : Int, x1 = μ 34 0 1 → ∀ μ2 : m_M, μ2 = m_up μ 34 0 1 0 → ((x1 ≤ 0) → mW G X YX12_see μ2 34 [some (vR 34 0), some (vI x1), some (vI 0), some (vI 0)] []) ∧ ((¬ x1 ≤ 0) → ((¬ (x1.tmod 3) = 0) → mW G X YX12_see μ2 34 [some (vR 34 0), some (vI x1), some (vI 0), some (vI 0)] []) ∧ ((x1.tmod 3 = 0) → ((48 < x1) → mW G X YX12_see μ2 34 [some (vR 34 0), some (vI x1), some (vI 0), some (vI 0)] []) ∧ ((¬ 48 < x1) → mW G X YX12_see μ2 34 [some (vR 34 0), some (vI x1), some (vI 1), some (vI 0)] [])))) :
    mW G X YX12_see μ 0 [some (vR 34 0), none, none, none] [] := by
  refine m_aload_n C dX12_see_0 rfl ?_
  refine f_getI C dX12_see_1 fl_KilnBenchModel_13 rfl (by decide) (by decide) ?_
  refine n_istore_n (fun x1 => [some (vR 34 0), some (vI x1), none, none]) C dX12_see_4 (by decide) (fun _ => rfl) (fun x1 ex1 => ?_)
  have h := h x1 ex1
  refine m_aload_n C dX12_see_5 rfl ?_
  refine m_iconst C dX12_see_6 (by unfold in32; omega) ?_
  refine f_putI C dX12_see_7 fl_KilnBenchModel_13 rfl (by decide) (by decide) (by decide) ?_
  refine n_mem (fun μ2 eμ2 => ?_)
  have h := h μ2 eμ2
  refine m_iload_n C dX12_see_10 rfl ?_
  refine m_if_le (tgt := 30) C dX12_see_11 (by decide) (fun c => ?_) (fun c => ?_)
  · have h := h.1 c
    refine m_iconst C dX12_see_30 (by unfold in32; omega) ?_
    refine o_istore_n [some (vR 34 0), some (vI x1), some (vI 0), none] C dX12_see_31 (by decide) rfl ?_
    refine m_iconst C dX12_see_32 (by unfold in32; omega) ?_
    refine o_istore_n [some (vR 34 0), some (vI x1), some (vI 0), some (vI 0)] C dX12_see_33 (by decide) rfl ?_
    exact h
  · have h := h.2 c
    refine m_iload_n C dX12_see_14 rfl ?_
    refine m_iconst C dX12_see_15 (by unfold in32; omega) ?_
    refine m_irem C dX12_see_16 (by decide) ?_
    refine m_if_ne (tgt := 30) C dX12_see_17 (by decide) (fun c => ?_) (fun c => ?_)
    · have h := h.1 c
      refine m_iconst C dX12_see_30 (by unfold in32; omega) ?_
      refine o_istore_n [some (vR 34 0), some (vI x1), some (vI 0), none] C dX12_see_31 (by decide) rfl ?_
      refine m_iconst C dX12_see_32 (by unfold in32; omega) ?_
      refine o_istore_n [some (vR 34 0), some (vI x1), some (vI 0), some (vI 0)] C dX12_see_33 (by decide) rfl ?_
      exact h
    · have h := h.2 c
      refine m_iload_n C dX12_see_20 rfl ?_
      refine m_bipush C dX12_see_21 (by omega) ?_
      refine m_icmp_gt (tgt := 30) C dX12_see_23 (by decide) (fun c => ?_) (fun c => ?_)
      · have h := h.1 c
        refine m_iconst C dX12_see_30 (by unfold in32; omega) ?_
        refine o_istore_n [some (vR 34 0), some (vI x1), some (vI 0), none] C dX12_see_31 (by decide) rfl ?_
        refine m_iconst C dX12_see_32 (by unfold in32; omega) ?_
        refine o_istore_n [some (vR 34 0), some (vI x1), some (vI 0), some (vI 0)] C dX12_see_33 (by decide) rfl ?_
        exact h
      · have h := h.2 c
        refine m_iconst C dX12_see_26 (by unfold in32; omega) ?_
        refine m_goto (tgt := 31) C dX12_see_27 (by decide) ?_
        refine o_istore_n [some (vR 34 0), some (vI x1), some (vI 1), none] C dX12_see_31 (by decide) rfl ?_
        refine m_iconst C dX12_see_32 (by unfold in32; omega) ?_
        refine o_istore_n [some (vR 34 0), some (vI x1), some (vI 1), some (vI 0)] C dX12_see_33 (by decide) rfl ?_
        exact h

set_option maxRecDepth 20000 in
theorem VX12_see_34 {G : m_G} {X : m_X} {d : Nat} {K : Int → m_M → Prop} (C : mC G X YX12_see (d + 1)) (R : r_i G X K) {μ : m_M} {l1 : Int} {l2 : Int} {l3 : Int}
    (h : ((l1 ≤ l3) → ((¬ l2 = 0) → ∀ μ1 : m_M, μ1 = m_up μ 34 0 60 (w32 (l1.tdiv 3)) → mW G X YX12_see μ1 113 [some (vR 34 0), some (vI l1), some (vI l2), some (vI 0)] []) ∧ ((l2 = 0) → c_i G d YX12_refuses [vR 34 0, vI 5] μ (fun r4 μ3 => K r4 μ3))) ∧ ((¬ l1 ≤ l3) → ((l2 = 0) → ((¬ l2 = 0) → ∀ μ5 : m_M, μ5 = m_up μ 34 0 60 (w32 (l1.tdiv 3)) → mW G X YX12_see μ5 113 [some (vR 34 0), some (vI l1), some (vI l2), some (vI 0)] []) ∧ ((l2 = 0) → c_i G d YX12_refuses [vR 34 0, vI 5] μ (fun r8 μ7 => K r8 μ7))) ∧ ((¬ l2 = 0) → (0 ≤ l3 ∧ l3 < 1800) ∧ c_i G d YX12_isChild [vR 34 0, vI (μ 34 1 l3.toNat)] μ (fun r10 μ9 => ((r10 = 0) → ∀ x12 : Int, x12 = w32 (l3 + 3) → mW G X YX12_see μ9 34 [some (vR 34 0), some (vI l1), some (vI 0), some (vI x12)] []) ∧ ((¬ r10 = 0) → (0 ≤ w32 (l3 + 1) ∧ w32 (l3 + 1) < 1800) ∧ ((6 ≤ μ9 34 1 (w32 (l3 + 1)).toNat) → ∀ x14 : Int, x14 = w32 (l3 + 3) → mW G X YX12_see μ9 34 [some (vR 34 0), some (vI l1), some (vI 0), some (vI x14)] []) ∧ ((¬ 6 ≤ μ9 34 1 (w32 (l3 + 1)).toNat) → (0 ≤ w32 (l3 + 2) ∧ w32 (l3 + 2) < 1800) ∧ ((99 < μ9 34 1 (w32 (l3 + 2)).toNat) → ∀ x16 : Int, x16 = w32 (l3 + 3) → mW G X YX12_see μ9 34 [some (vR 34 0), some (vI l1), some (vI 0), some (vI x16)] []) ∧ ((¬ 99 < μ9 34 1 (w32 (l3 + 2)).toNat) → ∀ x18 : Int, x18 = w32 (l3 + 3) → mW G X YX12_see μ9 34 [some (vR 34 0), some (vI l1), some (vI 1), some (vI x18)] []))))))) :
    mW G X YX12_see μ 34 [some (vR 34 0), some (vI l1), some (vI l2), some (vI l3)] [] := by
  refine m_iload_n C dX12_see_34 rfl ?_
  refine m_iload_n C dX12_see_35 rfl ?_
  refine m_icmp_ge (tgt := 94) C dX12_see_36 (by decide) (fun c => ?_) (fun c => ?_)
  · have h := h.1 c
    refine m_iload_n C dX12_see_94 rfl ?_
    refine m_if_ne (tgt := 104) C dX12_see_95 (by decide) (fun c => ?_) (fun c => ?_)
    · have h := h.1 c
      refine m_aload_n C dX12_see_104 rfl ?_
      refine m_iload_n C dX12_see_105 rfl ?_
      refine m_iconst C dX12_see_106 (by unfold in32; omega) ?_
      refine m_idiv C dX12_see_107 (by decide) ?_
      refine f_putI C dX12_see_108 fl_KilnBenchModel_195 rfl (by decide) (by decide) (by decide) ?_
      refine n_mem (fun μ1 eμ1 => ?_)
      have h := h μ1 eμ1
      refine m_iconst C dX12_see_111 (by unfold in32; omega) ?_
      refine o_istore_n [some (vR 34 0), some (vI l1), some (vI l2), some (vI 0)] C dX12_see_112 (by decide) rfl ?_
      exact h
    · have h := h.2 c
      refine m_aload_n C dX12_see_98 rfl ?_
      refine m_iconst C dX12_see_99 (by unfold in32; omega) ?_
      refine f_callVi (As := [vI 5]) (st := []) C dX12_see_100 ml_KilnBenchModel_216 rfl (by decide) rfl rfl rfl (Nat.le_of_ble_eq_true rfl) h (fun r4 μ3 h => ?_)
      exact f_iret C R rfl dX12_see_103 h
  · have h := h.2 c
    refine m_iload_n C dX12_see_39 rfl ?_
    refine m_if_eq (tgt := 94) C dX12_see_40 (by decide) (fun c => ?_) (fun c => ?_)
    · have h := h.1 c
      refine m_iload_n C dX12_see_94 rfl ?_
      refine m_if_ne (tgt := 104) C dX12_see_95 (by decide) (fun c => ?_) (fun c => ?_)
      · have h := h.1 c
        refine m_aload_n C dX12_see_104 rfl ?_
        refine m_iload_n C dX12_see_105 rfl ?_
        refine m_iconst C dX12_see_106 (by unfold in32; omega) ?_
        refine m_idiv C dX12_see_107 (by decide) ?_
        refine f_putI C dX12_see_108 fl_KilnBenchModel_195 rfl (by decide) (by decide) (by decide) ?_
        refine n_mem (fun μ5 eμ5 => ?_)
        have h := h μ5 eμ5
        refine m_iconst C dX12_see_111 (by unfold in32; omega) ?_
        refine o_istore_n [some (vR 34 0), some (vI l1), some (vI l2), some (vI 0)] C dX12_see_112 (by decide) rfl ?_
        exact h
      · have h := h.2 c
        refine m_aload_n C dX12_see_98 rfl ?_
        refine m_iconst C dX12_see_99 (by unfold in32; omega) ?_
        refine f_callVi (As := [vI 5]) (st := []) C dX12_see_100 ml_KilnBenchModel_216 rfl (by decide) rfl rfl rfl (Nat.le_of_ble_eq_true rfl) h (fun r8 μ7 h => ?_)
        exact f_iret C R rfl dX12_see_103 h
    · have h := h.2 c
      refine m_aload_n C dX12_see_43 rfl ?_
      refine m_aload_n C dX12_see_44 rfl ?_
      refine f_getA C dX12_see_45 fl_KilnBenchModel_7 rfl (by decide) (by decide) (by decide) (by decide) ?_
      refine m_iload_n C dX12_see_48 rfl ?_
      obtain ⟨hb, h⟩ := h
      refine f_iald C dX12_see_49 (m_arO (a := 0) (len := 1800) rfl rfl) (by decide) hb ?_
      refine f_callVi (As := [vI (μ 34 1 l3.toNat)]) (st := []) C dX12_see_50 ml_KilnBenchModel_453 rfl (by decide) rfl rfl rfl (Nat.le_of_ble_eq_true rfl) h (fun r10 μ9 h => ?_)
      refine m_if_eq (tgt := 86) C dX12_see_53 (by decide) (fun c => ?_) (fun c => ?_)
      · have h := h.1 c
        refine m_iconst C dX12_see_86 (by unfold in32; omega) ?_
        refine o_istore_n [some (vR 34 0), some (vI l1), some (vI 0), some (vI l3)] C dX12_see_87 (by decide) rfl ?_
        refine n_iinc (fun x12 => [some (vR 34 0), some (vI l1), some (vI 0), some (vI x12)]) C dX12_see_88 rfl (by decide) (fun _ => rfl) (fun x12 ex12 => ?_)
        have h := h x12 ex12
        refine m_goto (tgt := 34) C dX12_see_91 (by decide) ?_
        exact h
      · have h := h.2 c
        refine m_aload_n C dX12_see_56 rfl ?_
        refine f_getA C dX12_see_57 fl_KilnBenchModel_7 rfl (by decide) (by decide) (by decide) (by decide) ?_
        refine m_iload_n C dX12_see_60 rfl ?_
        refine m_iconst C dX12_see_61 (by unfold in32; omega) ?_
        refine m_iadd C dX12_see_62 ?_
        obtain ⟨hb, h⟩ := h
        refine f_iald C dX12_see_63 (m_arO (a := 0) (len := 1800) rfl rfl) (by decide) hb ?_
        refine m_bipush C dX12_see_64 (by omega) ?_
        refine m_icmp_ge (tgt := 86) C dX12_see_66 (by decide) (fun c => ?_) (fun c => ?_)
        · have h := h.1 c
          refine m_iconst C dX12_see_86 (by unfold in32; omega) ?_
          refine o_istore_n [some (vR 34 0), some (vI l1), some (vI 0), some (vI l3)] C dX12_see_87 (by decide) rfl ?_
          refine n_iinc (fun x14 => [some (vR 34 0), some (vI l1), some (vI 0), some (vI x14)]) C dX12_see_88 rfl (by decide) (fun _ => rfl) (fun x14 ex14 => ?_)
          have h := h x14 ex14
          refine m_goto (tgt := 34) C dX12_see_91 (by decide) ?_
          exact h
        · have h := h.2 c
          refine m_aload_n C dX12_see_69 rfl ?_
          refine f_getA C dX12_see_70 fl_KilnBenchModel_7 rfl (by decide) (by decide) (by decide) (by decide) ?_
          refine m_iload_n C dX12_see_73 rfl ?_
          refine m_iconst C dX12_see_74 (by unfold in32; omega) ?_
          refine m_iadd C dX12_see_75 ?_
          obtain ⟨hb, h⟩ := h
          refine f_iald C dX12_see_76 (m_arO (a := 0) (len := 1800) rfl rfl) (by decide) hb ?_
          refine m_bipush C dX12_see_77 (by omega) ?_
          refine m_icmp_gt (tgt := 86) C dX12_see_79 (by decide) (fun c => ?_) (fun c => ?_)
          · have h := h.1 c
            refine m_iconst C dX12_see_86 (by unfold in32; omega) ?_
            refine o_istore_n [some (vR 34 0), some (vI l1), some (vI 0), some (vI l3)] C dX12_see_87 (by decide) rfl ?_
            refine n_iinc (fun x16 => [some (vR 34 0), some (vI l1), some (vI 0), some (vI x16)]) C dX12_see_88 rfl (by decide) (fun _ => rfl) (fun x16 ex16 => ?_)
            have h := h x16 ex16
            refine m_goto (tgt := 34) C dX12_see_91 (by decide) ?_
            exact h
          · have h := h.2 c
            refine m_iconst C dX12_see_82 (by unfold in32; omega) ?_
            refine m_goto (tgt := 87) C dX12_see_83 (by decide) ?_
            refine o_istore_n [some (vR 34 0), some (vI l1), some (vI 1), some (vI l3)] C dX12_see_87 (by decide) rfl ?_
            refine n_iinc (fun x18 => [some (vR 34 0), some (vI l1), some (vI 1), some (vI x18)]) C dX12_see_88 rfl (by decide) (fun _ => rfl) (fun x18 ex18 => ?_)
            have h := h x18 ex18
            refine m_goto (tgt := 34) C dX12_see_91 (by decide) ?_
            exact h

set_option maxRecDepth 20000 in
theorem VX12_see_113 {G : m_G} {X : m_X} {d : Nat} {K : Int → m_M → Prop} (C : mC G X YX12_see (d + 1)) (R : r_i G X K) {μ : m_M} {l1 : Int} {l2 : Int} {l3 : Int}
    (h : ((μ 34 0 60 ≤ l3) → K (μ 34 0 60) μ) ∧ ((¬ μ 34 0 60 ≤ l3) → (0 ≤ w32 (3 * l3) ∧ w32 (3 * l3) < 1800) ∧ (0 ≤ l3 ∧ l3 < 16) ∧ ∀ μ1 : m_M, μ1 = m_up μ 34 62 l3.toNat (μ 34 1 (w32 (3 * l3)).toNat) → (0 ≤ w32 ((w32 (3 * l3)) + 1) ∧ w32 ((w32 (3 * l3)) + 1) < 1800) ∧ (0 ≤ l3 ∧ l3 < 16) ∧ ∀ μ2 : m_M, μ2 = m_up μ1 34 63 l3.toNat (μ1 34 1 (w32 ((w32 (3 * l3)) + 1)).toNat) → (0 ≤ w32 ((w32 (3 * l3)) + 2) ∧ w32 ((w32 (3 * l3)) + 2) < 1800) ∧ (0 ≤ l3 ∧ l3 < 16) ∧ ∀ μ3 : m_M, μ3 = m_up μ2 34 64 l3.toNat (μ2 34 1 (w32 ((w32 (3 * l3)) + 2)).toNat) → ∀ x4 : Int, x4 = w32 (l3 + 1) → mW G X YX12_see μ3 113 [some (vR 34 0), some (vI l1), some (vI l2), some (vI x4)] [])) :
    mW G X YX12_see μ 113 [some (vR 34 0), some (vI l1), some (vI l2), some (vI l3)] [] := by
  refine m_iload_n C dX12_see_113 rfl ?_
  refine m_aload_n C dX12_see_114 rfl ?_
  refine f_getI C dX12_see_115 fl_KilnBenchModel_195 rfl (by decide) (by decide) ?_
  refine m_icmp_ge (tgt := 173) C dX12_see_118 (by decide) (fun c => ?_) (fun c => ?_)
  · have h := h.1 c
    refine m_aload_n C dX12_see_173 rfl ?_
    refine f_getI C dX12_see_174 fl_KilnBenchModel_195 rfl (by decide) (by decide) ?_
    exact f_iret C R rfl dX12_see_177 h
  · have h := h.2 c
    refine m_aload_n C dX12_see_121 rfl ?_
    refine f_getA C dX12_see_122 fl_KilnBenchModel_198 rfl (by decide) (by decide) (by decide) (by decide) ?_
    refine m_iload_n C dX12_see_125 rfl ?_
    refine m_aload_n C dX12_see_126 rfl ?_
    refine f_getA C dX12_see_127 fl_KilnBenchModel_7 rfl (by decide) (by decide) (by decide) (by decide) ?_
    refine m_iconst C dX12_see_130 (by unfold in32; omega) ?_
    refine m_iload_n C dX12_see_131 rfl ?_
    refine m_imul C dX12_see_132 ?_
    obtain ⟨hb, h⟩ := h
    refine f_iald C dX12_see_133 (m_arO (a := 0) (len := 1800) rfl rfl) (by decide) hb ?_
    obtain ⟨hb, h⟩ := h
    refine f_iast C dX12_see_134 (m_arO (a := 0) (len := 16) rfl rfl) (by decide) hb ?_
    refine n_mem (fun μ1 eμ1 => ?_)
    have h := h μ1 eμ1
    refine m_aload_n C dX12_see_135 rfl ?_
    refine f_getA C dX12_see_136 fl_KilnBenchModel_201 rfl (by decide) (by decide) (by decide) (by decide) ?_
    refine m_iload_n C dX12_see_139 rfl ?_
    refine m_aload_n C dX12_see_140 rfl ?_
    refine f_getA C dX12_see_141 fl_KilnBenchModel_7 rfl (by decide) (by decide) (by decide) (by decide) ?_
    refine m_iconst C dX12_see_144 (by unfold in32; omega) ?_
    refine m_iload_n C dX12_see_145 rfl ?_
    refine m_imul C dX12_see_146 ?_
    refine m_iconst C dX12_see_147 (by unfold in32; omega) ?_
    refine m_iadd C dX12_see_148 ?_
    obtain ⟨hb, h⟩ := h
    refine f_iald C dX12_see_149 (m_arO (a := 0) (len := 1800) rfl rfl) (by decide) hb ?_
    obtain ⟨hb, h⟩ := h
    refine f_iast C dX12_see_150 (m_arO (a := 0) (len := 16) rfl rfl) (by decide) hb ?_
    refine n_mem (fun μ2 eμ2 => ?_)
    have h := h μ2 eμ2
    refine m_aload_n C dX12_see_151 rfl ?_
    refine f_getA C dX12_see_152 fl_KilnBenchModel_204 rfl (by decide) (by decide) (by decide) (by decide) ?_
    refine m_iload_n C dX12_see_155 rfl ?_
    refine m_aload_n C dX12_see_156 rfl ?_
    refine f_getA C dX12_see_157 fl_KilnBenchModel_7 rfl (by decide) (by decide) (by decide) (by decide) ?_
    refine m_iconst C dX12_see_160 (by unfold in32; omega) ?_
    refine m_iload_n C dX12_see_161 rfl ?_
    refine m_imul C dX12_see_162 ?_
    refine m_iconst C dX12_see_163 (by unfold in32; omega) ?_
    refine m_iadd C dX12_see_164 ?_
    obtain ⟨hb, h⟩ := h
    refine f_iald C dX12_see_165 (m_arO (a := 0) (len := 1800) rfl rfl) (by decide) hb ?_
    obtain ⟨hb, h⟩ := h
    refine f_iast C dX12_see_166 (m_arO (a := 0) (len := 16) rfl rfl) (by decide) hb ?_
    refine n_mem (fun μ3 eμ3 => ?_)
    have h := h μ3 eμ3
    refine n_iinc (fun x4 => [some (vR 34 0), some (vI l1), some (vI l2), some (vI x4)]) C dX12_see_167 rfl (by decide) (fun _ => rfl) (fun x4 ex4 => ?_)
    have h := h x4 ex4
    refine m_goto (tgt := 113) C dX12_see_170 (by decide) ?_
    exact h

set_option maxRecDepth 20000 in
theorem VX12_seen_0 {G : m_G} {X : m_X} {d : Nat} {K : Int → m_M → Prop} (C : mC G X YX12_seen (d + 1)) (R : r_i G X K) {μ : m_M}
    (h : mW G X YX12_seen μ 4 [some (vR 34 0), some (vI 0), some (vI 0), none, none] []) :
    mW G X YX12_seen μ 0 [some (vR 34 0), none, none, none, none] [] := by
  refine m_iconst C dX12_seen_0 (by unfold in32; omega) ?_
  refine o_istore_n [some (vR 34 0), some (vI 0), none, none, none] C dX12_seen_1 (by decide) rfl ?_
  refine m_iconst C dX12_seen_2 (by unfold in32; omega) ?_
  refine o_istore_n [some (vR 34 0), some (vI 0), some (vI 0), none, none] C dX12_seen_3 (by decide) rfl ?_
  exact h

set_option maxRecDepth 20000 in
theorem VX12_seen_4 {G : m_G} {X : m_X} {d : Nat} {K : Int → m_M → Prop} (C : mC G X YX12_seen (d + 1)) (R : r_i G X K) {μ : m_M} {l1 : Int} {l2 : Int}
    (h : ((20 < l2) → K l1 μ) ∧ ((¬ 20 < l2) → mW G X YX12_seen μ 15 [some (vR 34 0), some (vI l1), some (vI l2), some (vI 1), some (vI 0)] [])) :
    mW G X YX12_seen μ 4 [some (vR 34 0), some (vI l1), some (vI l2), none, none] [] := by
  refine m_iload_n C dX12_seen_4 rfl ?_
  refine m_bipush C dX12_seen_5 (by omega) ?_
  refine m_icmp_gt (tgt := 90) C dX12_seen_7 (by decide) (fun c => ?_) (fun c => ?_)
  · have h := h.1 c
    refine m_iload_n C dX12_seen_90 rfl ?_
    exact f_iret C R rfl dX12_seen_91 h
  · have h := h.2 c
    refine m_iconst C dX12_seen_10 (by unfold in32; omega) ?_
    refine o_istore_n [some (vR 34 0), some (vI l1), some (vI l2), some (vI 1), none] C dX12_seen_11 (by decide) rfl ?_
    refine m_iconst C dX12_seen_12 (by unfold in32; omega) ?_
    refine o_istore [some (vR 34 0), some (vI l1), some (vI l2), some (vI 1), some (vI 0)] C dX12_seen_13 (by decide) rfl ?_
    exact h

set_option maxRecDepth 20000 in
theorem VX12_seen_15 {G : m_G} {X : m_X} {d : Nat} {K : Int → m_M → Prop} (C : mC G X YX12_seen (d + 1)) (R : r_i G X K) {μ : m_M} {l1 : Int} {l2 : Int} {l3 : Int} {l4 : Int}
    (h : ((μ 34 0 60 ≤ l4) → ((l3 = 0) → ∀ x1 : Int, x1 = i_or l1 0 → ∀ x2 : Int, x2 = w32 (l2 + 1) → mW G X YX12_seen μ 4 [some (vR 34 0), some (vI x1), some (vI x2), none, none] []) ∧ ((¬ l3 = 0) → ∀ x3 : Int, x3 = i_or l1 (i_shl 1 l2) → ∀ x4 : Int, x4 = w32 (l2 + 1) → mW G X YX12_seen μ 4 [some (vR 34 0), some (vI x3), some (vI x4), none, none] [])) ∧ ((¬ μ 34 0 60 ≤ l4) → ((l3 = 0) → ∀ x6 : Int, x6 = w32 (l4 + 1) → mW G X YX12_seen μ 15 [some (vR 34 0), some (vI l1), some (vI l2), some (vI 0), some (vI x6)] []) ∧ ((¬ l3 = 0) → (0 ≤ l4 ∧ l4 < 16) ∧ (0 ≤ l4 ∧ l4 < 16) ∧ c_i G d YX12_ring [vR 34 0, vI 0, vI (μ 34 62 l4.toNat), vI l2, vI (μ 34 63 l4.toNat)] μ (fun r8 μ7 => (0 ≤ l4 ∧ l4 < 16) ∧ ((¬ r8 = (μ7 34 64 l4.toNat)) → ∀ x10 : Int, x10 = w32 (l4 + 1) → mW G X YX12_seen μ7 15 [some (vR 34 0), some (vI l1), some (vI l2), some (vI 0), some (vI x10)] []) ∧ ((r8 = μ7 34 64 l4.toNat) → ∀ x12 : Int, x12 = w32 (l4 + 1) → mW G X YX12_seen μ7 15 [some (vR 34 0), some (vI l1), some (vI l2), some (vI 1), some (vI x12)] []))))) :
    mW G X YX12_seen μ 15 [some (vR 34 0), some (vI l1), some (vI l2), some (vI l3), some (vI l4)] [] := by
  refine m_iload C dX12_seen_15 rfl ?_
  refine m_aload_n C dX12_seen_17 rfl ?_
  refine f_getI C dX12_seen_18 fl_KilnBenchModel_195 rfl (by decide) (by decide) ?_
  refine m_icmp_ge (tgt := 70) C dX12_seen_21 (by decide) (fun c => ?_) (fun c => ?_)
  · have h := h.1 c
    refine m_iload_n C dX12_seen_70 rfl ?_
    refine m_iload_n C dX12_seen_71 rfl ?_
    refine m_if_eq (tgt := 81) C dX12_seen_72 (by decide) (fun c => ?_) (fun c => ?_)
    · have h := h.1 c
      refine m_iconst C dX12_seen_81 (by unfold in32; omega) ?_
      refine m_ior C dX12_seen_82 ?_
      refine n_istore_n (fun x1 => [some (vR 34 0), some (vI x1), some (vI l2), some (vI l3), some (vI l4)]) C dX12_seen_83 (by decide) (fun _ => rfl) (fun x1 ex1 => ?_)
      have h := h x1 ex1
      refine n_iinc (fun x2 => [some (vR 34 0), some (vI x1), some (vI x2), some (vI l3), some (vI l4)]) C dX12_seen_84 rfl (by decide) (fun _ => rfl) (fun x2 ex2 => ?_)
      have h := h x2 ex2
      refine m_goto (tgt := 4) C dX12_seen_87 (by decide) ?_
      exact n_weak (le_same (le_same (le_same (le_none (le_none le_nil))))) h
    · have h := h.2 c
      refine m_iconst C dX12_seen_75 (by unfold in32; omega) ?_
      refine m_iload_n C dX12_seen_76 rfl ?_
      refine m_ishl C dX12_seen_77 ?_
      refine m_goto (tgt := 82) C dX12_seen_78 (by decide) ?_
      refine m_ior C dX12_seen_82 ?_
      refine n_istore_n (fun x3 => [some (vR 34 0), some (vI x3), some (vI l2), some (vI l3), some (vI l4)]) C dX12_seen_83 (by decide) (fun _ => rfl) (fun x3 ex3 => ?_)
      have h := h x3 ex3
      refine n_iinc (fun x4 => [some (vR 34 0), some (vI x3), some (vI x4), some (vI l3), some (vI l4)]) C dX12_seen_84 rfl (by decide) (fun _ => rfl) (fun x4 ex4 => ?_)
      have h := h x4 ex4
      refine m_goto (tgt := 4) C dX12_seen_87 (by decide) ?_
      exact n_weak (le_same (le_same (le_same (le_none (le_none le_nil))))) h
  · have h := h.2 c
    refine m_iload_n C dX12_seen_24 rfl ?_
    refine m_if_eq (tgt := 62) C dX12_seen_25 (by decide) (fun c => ?_) (fun c => ?_)
    · have h := h.1 c
      refine m_iconst C dX12_seen_62 (by unfold in32; omega) ?_
      refine o_istore_n [some (vR 34 0), some (vI l1), some (vI l2), some (vI 0), some (vI l4)] C dX12_seen_63 (by decide) rfl ?_
      refine n_iinc (fun x6 => [some (vR 34 0), some (vI l1), some (vI l2), some (vI 0), some (vI x6)]) C dX12_seen_64 rfl (by decide) (fun _ => rfl) (fun x6 ex6 => ?_)
      have h := h x6 ex6
      refine m_goto (tgt := 15) C dX12_seen_67 (by decide) ?_
      exact h
    · have h := h.2 c
      refine m_aload_n C dX12_seen_28 rfl ?_
      refine m_iconst C dX12_seen_29 (by unfold in32; omega) ?_
      refine m_aload_n C dX12_seen_30 rfl ?_
      refine f_getA C dX12_seen_31 fl_KilnBenchModel_198 rfl (by decide) (by decide) (by decide) (by decide) ?_
      refine m_iload C dX12_seen_34 rfl ?_
      obtain ⟨hb, h⟩ := h
      refine f_iald C dX12_seen_36 (m_arO (a := 0) (len := 16) rfl rfl) (by decide) hb ?_
      refine m_iload_n C dX12_seen_37 rfl ?_
      refine m_aload_n C dX12_seen_38 rfl ?_
      refine f_getA C dX12_seen_39 fl_KilnBenchModel_201 rfl (by decide) (by decide) (by decide) (by decide) ?_
      refine m_iload C dX12_seen_42 rfl ?_
      obtain ⟨hb, h⟩ := h
      refine f_iald C dX12_seen_44 (m_arO (a := 0) (len := 16) rfl rfl) (by decide) hb ?_
      refine f_callVi (As := [vI 0, vI (μ 34 62 l4.toNat), vI l2, vI (μ 34 63 l4.toNat)]) (st := []) C dX12_seen_45 ml_KilnBenchModel_418 rfl (by decide) rfl rfl rfl (Nat.le_of_ble_eq_true rfl) h (fun r8 μ7 h => ?_)
      refine m_aload_n C dX12_seen_48 rfl ?_
      refine f_getA C dX12_seen_49 fl_KilnBenchModel_204 rfl (by decide) (by decide) (by decide) (by decide) ?_
      refine m_iload C dX12_seen_52 rfl ?_
      obtain ⟨hb, h⟩ := h
      refine f_iald C dX12_seen_54 (m_arO (a := 0) (len := 16) rfl rfl) (by decide) hb ?_
      refine m_icmp_ne (tgt := 62) C dX12_seen_55 (by decide) (fun c => ?_) (fun c => ?_)
      · have h := h.1 c
        refine m_iconst C dX12_seen_62 (by unfold in32; omega) ?_
        refine o_istore_n [some (vR 34 0), some (vI l1), some (vI l2), some (vI 0), some (vI l4)] C dX12_seen_63 (by decide) rfl ?_
        refine n_iinc (fun x10 => [some (vR 34 0), some (vI l1), some (vI l2), some (vI 0), some (vI x10)]) C dX12_seen_64 rfl (by decide) (fun _ => rfl) (fun x10 ex10 => ?_)
        have h := h x10 ex10
        refine m_goto (tgt := 15) C dX12_seen_67 (by decide) ?_
        exact h
      · have h := h.2 c
        refine m_iconst C dX12_seen_58 (by unfold in32; omega) ?_
        refine m_goto (tgt := 63) C dX12_seen_59 (by decide) ?_
        refine o_istore_n [some (vR 34 0), some (vI l1), some (vI l2), some (vI 1), some (vI l4)] C dX12_seen_63 (by decide) rfl ?_
        refine n_iinc (fun x12 => [some (vR 34 0), some (vI l1), some (vI l2), some (vI 1), some (vI x12)]) C dX12_seen_64 rfl (by decide) (fun _ => rfl) (fun x12 ex12 => ?_)
        have h := h x12 ex12
        refine m_goto (tgt := 15) C dX12_seen_67 (by decide) ?_
        exact h

set_option maxRecDepth 20000 in
theorem VX12_mostBy_0 {G : m_G} {X : m_X} {d : Nat} {K : Int → m_M → Prop} (C : mC G X YX12_mostBy (d + 1)) (R : r_i G X K) {μ : m_M} {a1 : Int} {a2 : Int} {a3 : Int}
    (h : mW G X YX12_mostBy μ 3 [some (vR 34 0), some (vI a1), some (vI a2), some (vI a3), some (vI 0), none, none] []) :
    mW G X YX12_mostBy μ 0 [some (vR 34 0), some (vI a1), some (vI a2), some (vI a3), none, none, none] [] := by
  refine m_iconst C dX12_mostBy_0 (by unfold in32; omega) ?_
  refine o_istore [some (vR 34 0), some (vI a1), some (vI a2), some (vI a3), some (vI 0), none, none] C dX12_mostBy_1 (by decide) rfl ?_
  exact h

set_option maxRecDepth 20000 in
theorem VX12_mostBy_3 {G : m_G} {X : m_X} {d : Nat} {K : Int → m_M → Prop} (C : mC G X YX12_mostBy (d + 1)) (R : r_i G X K) {μ : m_M} {a1 : Int} {a2 : Int} {a3 : Int} {l4 : Int}
    (h : ((99 < l4) → mW G X YX12_mostBy μ 30 [some (vR 34 0), some (vI a1), some (vI a2), some (vI a3), some (vI 0), some (vI 0), none] []) ∧ ((¬ 99 < l4) → (0 ≤ l4 ∧ l4 < 100) ∧ ∀ μ3 : m_M, μ3 = m_up μ 34 65 l4.toNat 0 → ∀ x4 : Int, x4 = w32 (l4 + 1) → mW G X YX12_mostBy μ3 3 [some (vR 34 0), some (vI a1), some (vI a2), some (vI a3), some (vI x4), none, none] [])) :
    mW G X YX12_mostBy μ 3 [some (vR 34 0), some (vI a1), some (vI a2), some (vI a3), some (vI l4), none, none] [] := by
  refine m_iload C dX12_mostBy_3 rfl ?_
  refine m_bipush C dX12_mostBy_5 (by omega) ?_
  refine m_icmp_gt (tgt := 24) C dX12_mostBy_7 (by decide) (fun c => ?_) (fun c => ?_)
  · have h := h.1 c
    refine m_iconst C dX12_mostBy_24 (by unfold in32; omega) ?_
    refine o_istore [some (vR 34 0), some (vI a1), some (vI a2), some (vI a3), some (vI 0), none, none] C dX12_mostBy_25 (by decide) rfl ?_
    refine m_iconst C dX12_mostBy_27 (by unfold in32; omega) ?_
    refine o_istore [some (vR 34 0), some (vI a1), some (vI a2), some (vI a3), some (vI 0), some (vI 0), none] C dX12_mostBy_28 (by decide) rfl ?_
    exact h
  · have h := h.2 c
    refine m_aload_n C dX12_mostBy_10 rfl ?_
    refine f_getA C dX12_mostBy_11 fl_KilnBenchModel_207 rfl (by decide) (by decide) (by decide) (by decide) ?_
    refine m_iload C dX12_mostBy_14 rfl ?_
    refine m_iconst C dX12_mostBy_16 (by unfold in32; omega) ?_
    obtain ⟨hb, h⟩ := h
    refine f_iast C dX12_mostBy_17 (m_arO (a := 0) (len := 100) rfl rfl) (by decide) hb ?_
    refine n_mem (fun μ3 eμ3 => ?_)
    have h := h μ3 eμ3
    refine n_iinc (fun x4 => [some (vR 34 0), some (vI a1), some (vI a2), some (vI a3), some (vI x4), none, none]) C dX12_mostBy_18 rfl (by decide) (fun _ => rfl) (fun x4 ex4 => ?_)
    have h := h x4 ex4
    refine m_goto (tgt := 3) C dX12_mostBy_21 (by decide) ?_
    exact h

set_option maxRecDepth 20000 in
theorem VX12_mostBy_30 {G : m_G} {X : m_X} {d : Nat} {K : Int → m_M → Prop} (C : mC G X YX12_mostBy (d + 1)) (R : r_i G X K) {μ : m_M} {a1 : Int} {a2 : Int} {a3 : Int} {l4 : Int} {l5 : Int}
    (h : ((20 < l5) → K l4 μ) ∧ ((¬ 20 < l5) → c_i G d YX12_has2 [vI a1, vI l5] μ (fun r2 μ1 => ((¬ r2 = 0) → c_i G d YX12_ring [vR 34 0, vI 0, vI a2, vI l5, vI a3] μ1 (fun r4 μ3 => (0 ≤ r4 ∧ r4 < 100) ∧ (0 ≤ r4 ∧ r4 < 100) ∧ ∀ μ6 : m_M, μ6 = m_up μ3 34 65 r4.toNat (w32 ((μ3 34 65 r4.toNat) + 1)) → (0 ≤ r4 ∧ r4 < 100) ∧ ((μ6 34 65 r4.toNat ≤ l4) → ∀ x8 : Int, x8 = w32 (l5 + 1) → mW G X YX12_mostBy μ6 30 [some (vR 34 0), some (vI a1), some (vI a2), some (vI a3), some (vI l4), some (vI x8), none] []) ∧ ((¬ μ6 34 65 r4.toNat ≤ l4) → (0 ≤ r4 ∧ r4 < 100) ∧ ∀ x9 : Int, x9 = μ6 34 65 r4.toNat → ∀ x10 : Int, x10 = w32 (l5 + 1) → mW G X YX12_mostBy μ6 30 [some (vR 34 0), some (vI a1), some (vI a2), some (vI a3), some (vI x9), some (vI x10), none] []))) ∧ ((r2 = 0) → ∀ x11 : Int, x11 = w32 (l5 + 1) → mW G X YX12_mostBy μ1 30 [some (vR 34 0), some (vI a1), some (vI a2), some (vI a3), some (vI l4), some (vI x11), none] [])))) :
    mW G X YX12_mostBy μ 30 [some (vR 34 0), some (vI a1), some (vI a2), some (vI a3), some (vI l4), some (vI l5), none] [] := by
  refine m_iload C dX12_mostBy_30 rfl ?_
  refine m_bipush C dX12_mostBy_32 (by omega) ?_
  refine m_icmp_gt (tgt := 103) C dX12_mostBy_34 (by decide) (fun c => ?_) (fun c => ?_)
  · have h := h.1 c
    refine m_iload C dX12_mostBy_103 rfl ?_
    exact f_iret C R rfl dX12_mostBy_105 h
  · have h := h.2 c
    refine m_iload_n C dX12_mostBy_37 rfl ?_
    refine m_iload C dX12_mostBy_38 rfl ?_
    refine f_callSi (As := [vI a1, vI l5]) (st := []) C dX12_mostBy_40 ml_KilnBenchModel_458 rfl rfl (Nat.le_of_ble_eq_true rfl) h (fun r2 μ1 h => ?_)
    refine m_if_ne (tgt := 49) C dX12_mostBy_43 (by decide) (fun c => ?_) (fun c => ?_)
    · have h := h.1 c
      refine m_aload_n C dX12_mostBy_49 rfl ?_
      refine m_iconst C dX12_mostBy_50 (by unfold in32; omega) ?_
      refine m_iload_n C dX12_mostBy_51 rfl ?_
      refine m_iload C dX12_mostBy_52 rfl ?_
      refine m_iload_n C dX12_mostBy_54 rfl ?_
      refine f_callVi (As := [vI 0, vI a2, vI l5, vI a3]) (st := []) C dX12_mostBy_55 ml_KilnBenchModel_418 rfl (by decide) rfl rfl rfl (Nat.le_of_ble_eq_true rfl) h (fun r4 μ3 h => ?_)
      refine o_istore [some (vR 34 0), some (vI a1), some (vI a2), some (vI a3), some (vI l4), some (vI l5), some (vI r4)] C dX12_mostBy_58 (by decide) rfl ?_
      refine m_aload_n C dX12_mostBy_60 rfl ?_
      refine f_getA C dX12_mostBy_61 fl_KilnBenchModel_207 rfl (by decide) (by decide) (by decide) (by decide) ?_
      refine m_iload C dX12_mostBy_64 rfl ?_
      refine m_dup2 C dX12_mostBy_66 rfl rfl ?_
      obtain ⟨hb, h⟩ := h
      refine f_iald C dX12_mostBy_67 (m_arO (a := 0) (len := 100) rfl rfl) (by decide) hb ?_
      refine m_iconst C dX12_mostBy_68 (by unfold in32; omega) ?_
      refine m_iadd C dX12_mostBy_69 ?_
      obtain ⟨hb, h⟩ := h
      refine f_iast C dX12_mostBy_70 (m_arO (a := 0) (len := 100) rfl rfl) (by decide) hb ?_
      refine n_mem (fun μ6 eμ6 => ?_)
      have h := h μ6 eμ6
      refine m_aload_n C dX12_mostBy_71 rfl ?_
      refine f_getA C dX12_mostBy_72 fl_KilnBenchModel_207 rfl (by decide) (by decide) (by decide) (by decide) ?_
      refine m_iload C dX12_mostBy_75 rfl ?_
      obtain ⟨hb, h⟩ := h
      refine f_iald C dX12_mostBy_77 (m_arO (a := 0) (len := 100) rfl rfl) (by decide) hb ?_
      refine m_iload C dX12_mostBy_78 rfl ?_
      refine m_icmp_le (tgt := 93) C dX12_mostBy_80 (by decide) (fun c => ?_) (fun c => ?_)
      · have h := h.1 c
        refine m_iload C dX12_mostBy_93 rfl ?_
        refine o_istore [some (vR 34 0), some (vI a1), some (vI a2), some (vI a3), some (vI l4), some (vI l5), some (vI r4)] C dX12_mostBy_95 (by decide) rfl ?_
        refine n_iinc (fun x8 => [some (vR 34 0), some (vI a1), some (vI a2), some (vI a3), some (vI l4), some (vI x8), some (vI r4)]) C dX12_mostBy_97 rfl (by decide) (fun _ => rfl) (fun x8 ex8 => ?_)
        have h := h x8 ex8
        refine m_goto (tgt := 30) C dX12_mostBy_100 (by decide) ?_
        exact n_weak (le_same (le_same (le_same (le_same (le_same (le_same (le_none le_nil))))))) h
      · have h := h.2 c
        refine m_aload_n C dX12_mostBy_83 rfl ?_
        refine f_getA C dX12_mostBy_84 fl_KilnBenchModel_207 rfl (by decide) (by decide) (by decide) (by decide) ?_
        refine m_iload C dX12_mostBy_87 rfl ?_
        obtain ⟨hb, h⟩ := h
        refine f_iald C dX12_mostBy_89 (m_arO (a := 0) (len := 100) rfl rfl) (by decide) hb ?_
        refine m_goto (tgt := 95) C dX12_mostBy_90 (by decide) ?_
        refine n_istore (fun x9 => [some (vR 34 0), some (vI a1), some (vI a2), some (vI a3), some (vI x9), some (vI l5), some (vI r4)]) C dX12_mostBy_95 (by decide) (fun _ => rfl) (fun x9 ex9 => ?_)
        have h := h x9 ex9
        refine n_iinc (fun x10 => [some (vR 34 0), some (vI a1), some (vI a2), some (vI a3), some (vI x9), some (vI x10), some (vI r4)]) C dX12_mostBy_97 rfl (by decide) (fun _ => rfl) (fun x10 ex10 => ?_)
        have h := h x10 ex10
        refine m_goto (tgt := 30) C dX12_mostBy_100 (by decide) ?_
        exact n_weak (le_same (le_same (le_same (le_same (le_same (le_same (le_none le_nil))))))) h
    · have h := h.2 c
      refine m_goto (tgt := 97) C dX12_mostBy_46 (by decide) ?_
      refine n_iinc (fun x11 => [some (vR 34 0), some (vI a1), some (vI a2), some (vI a3), some (vI l4), some (vI x11), none]) C dX12_mostBy_97 rfl (by decide) (fun _ => rfl) (fun x11 ex11 => ?_)
      have h := h x11 ex11
      refine m_goto (tgt := 30) C dX12_mostBy_100 (by decide) ?_
      exact h

set_option maxRecDepth 20000 in
theorem VX12_tells_0 {G : m_G} {X : m_X} {d : Nat} {K : Int → m_M → Prop} (C : mC G X YX12_tells (d + 1)) (R : r_i G X K) {μ : m_M} {a1 : Int}
    (h : c_i G d YX12_seen [vR 34 0] μ (fun r2 μ1 => ((r2 = 0) → K (-1) μ1) ∧ ((¬ r2 = 0) → c_i G d YX12_is [vI a1, vI 0, vI 2] μ1 (fun r5 μ4 => ((¬ r5 = 0) → mW G X YX12_tells μ4 30 [some (vR 34 0), some (vI a1), some (vI r2), some (vI (-1)), some (vI 100000000), some (vI 0), none] []) ∧ ((r5 = 0) → K (-1) μ4))))) :
    mW G X YX12_tells μ 0 [some (vR 34 0), some (vI a1), none, none, none, none, none] [] := by
  refine m_aload_n C dX12_tells_0 rfl ?_
  refine f_callVi (As := []) (st := []) C dX12_tells_1 ml_KilnBenchModel_489 rfl (by decide) rfl rfl rfl (Nat.le_of_ble_eq_true rfl) h (fun r2 μ1 h => ?_)
  refine o_istore_n [some (vR 34 0), some (vI a1), some (vI r2), none, none, none, none] C dX12_tells_4 (by decide) rfl ?_
  refine m_iload_n C dX12_tells_5 rfl ?_
  refine m_if_eq (tgt := 18) C dX12_tells_6 (by decide) (fun c => ?_) (fun c => ?_)
  · have h := h.1 c
    refine m_iconst C dX12_tells_18 (by unfold in32; omega) ?_
    exact f_iret C R rfl dX12_tells_19 h
  · have h := h.2 c
    refine m_iload_n C dX12_tells_9 rfl ?_
    refine m_iconst C dX12_tells_10 (by unfold in32; omega) ?_
    refine m_iconst C dX12_tells_11 (by unfold in32; omega) ?_
    refine f_callSi (As := [vI a1, vI 0, vI 2]) (st := []) C dX12_tells_12 ml_KilnBenchModel_296 rfl rfl (Nat.le_of_ble_eq_true rfl) h (fun r5 μ4 h => ?_)
    refine m_if_ne (tgt := 20) C dX12_tells_15 (by decide) (fun c => ?_) (fun c => ?_)
    · have h := h.1 c
      refine m_iconst C dX12_tells_20 (by unfold in32; omega) ?_
      refine o_istore_n [some (vR 34 0), some (vI a1), some (vI r2), some (vI (-1)), none, none, none] C dX12_tells_21 (by decide) rfl ?_
      refine m_ldcw (x := 100000000) C dX12_tells_22 lc_KilnBenchModel_493 rfl ?_
      refine o_istore [some (vR 34 0), some (vI a1), some (vI r2), some (vI (-1)), some (vI 100000000), none, none] C dX12_tells_25 (by decide) rfl ?_
      refine m_iconst C dX12_tells_27 (by unfold in32; omega) ?_
      refine o_istore [some (vR 34 0), some (vI a1), some (vI r2), some (vI (-1)), some (vI 100000000), some (vI 0), none] C dX12_tells_28 (by decide) rfl ?_
      exact h
    · have h := h.2 c
      refine m_iconst C dX12_tells_18 (by unfold in32; omega) ?_
      exact f_iret C R rfl dX12_tells_19 h

set_option maxRecDepth 20000 in
theorem VX12_tells_30 {G : m_G} {X : m_X} {d : Nat} {K : Int → m_M → Prop} (C : mC G X YX12_tells (d + 1)) (R : r_i G X K) {μ : m_M} {a1 : Int} {l2 : Int} {l3 : Int} {l4 : Int} {l5 : Int}
    (h : (0 ≤ μ 34 0 13 ∧ μ 34 0 13 < 2) ∧ ((w32 (6 * (μ 34 15 (μ 34 0 13).toNat)) ≤ l5) → ((¬ l3 = (-1)) → ((¬ a1 = 0) → ((¬ a1 = 1) → K l4 μ) ∧ ((a1 = 1) → K (l3.tmod 6) μ)) ∧ ((a1 = 0) → K (w32 (l3.tdiv 6)) μ)) ∧ ((l3 = (-1)) → K (-1) μ)) ∧ ((¬ w32 (6 * (μ 34 15 (μ 34 0 13).toNat)) ≤ l5) → c_i G d YX12_mostBy [vR 34 0, vI l2, vI (w32 (l5.tdiv 6)), vI (l5.tmod 6)] μ (fun r2 μ1 => ((r2 < l4) → ∀ x6 : Int, x6 = w32 (l5 + 1) → mW G X YX12_tells μ1 30 [some (vR 34 0), some (vI a1), some (vI l2), some (vI l5), some (vI r2), some (vI x6), none] []) ∧ ((¬ r2 < l4) → ∀ x7 : Int, x7 = w32 (l5 + 1) → mW G X YX12_tells μ1 30 [some (vR 34 0), some (vI a1), some (vI l2), some (vI l3), some (vI l4), some (vI x7), none] [])))) :
    mW G X YX12_tells μ 30 [some (vR 34 0), some (vI a1), some (vI l2), some (vI l3), some (vI l4), some (vI l5), none] [] := by
  refine m_iload C dX12_tells_30 rfl ?_
  refine m_bipush C dX12_tells_32 (by omega) ?_
  refine m_aload_n C dX12_tells_34 rfl ?_
  refine f_getA C dX12_tells_35 fl_KilnBenchModel_54 rfl (by decide) (by decide) (by decide) (by decide) ?_
  refine m_aload_n C dX12_tells_38 rfl ?_
  refine f_getI C dX12_tells_39 fl_KilnBenchModel_51 rfl (by decide) (by decide) ?_
  obtain ⟨hb, h⟩ := h
  refine f_iald C dX12_tells_42 (m_arO (a := 0) (len := 2) rfl rfl) (by decide) hb ?_
  refine m_imul C dX12_tells_43 ?_
  refine m_icmp_ge (tgt := 87) C dX12_tells_44 (by decide) (fun c => ?_) (fun c => ?_)
  · have h := h.1 c
    refine m_iload_n C dX12_tells_87 rfl ?_
    refine m_iconst C dX12_tells_88 (by unfold in32; omega) ?_
    refine m_icmp_ne (tgt := 96) C dX12_tells_89 (by decide) (fun c => ?_) (fun c => ?_)
    · have h := h.1 c
      refine m_iload_n C dX12_tells_96 rfl ?_
      refine m_if_ne (tgt := 107) C dX12_tells_97 (by decide) (fun c => ?_) (fun c => ?_)
      · have h := h.1 c
        refine m_iload_n C dX12_tells_107 rfl ?_
        refine m_iconst C dX12_tells_108 (by unfold in32; omega) ?_
        refine m_icmp_ne (tgt := 119) C dX12_tells_109 (by decide) (fun c => ?_) (fun c => ?_)
        · have h := h.1 c
          refine m_iload C dX12_tells_119 rfl ?_
          exact f_iret C R rfl dX12_tells_121 h
        · have h := h.2 c
          refine m_iload_n C dX12_tells_112 rfl ?_
          refine m_bipush C dX12_tells_113 (by omega) ?_
          refine m_irem C dX12_tells_115 (by decide) ?_
          refine m_goto (tgt := 121) C dX12_tells_116 (by decide) ?_
          exact f_iret C R rfl dX12_tells_121 h
      · have h := h.2 c
        refine m_iload_n C dX12_tells_100 rfl ?_
        refine m_bipush C dX12_tells_101 (by omega) ?_
        refine m_idiv C dX12_tells_103 (by decide) ?_
        refine m_goto (tgt := 121) C dX12_tells_104 (by decide) ?_
        exact f_iret C R rfl dX12_tells_121 h
    · have h := h.2 c
      refine m_iconst C dX12_tells_92 (by unfold in32; omega) ?_
      refine m_goto (tgt := 121) C dX12_tells_93 (by decide) ?_
      exact f_iret C R rfl dX12_tells_121 h
  · have h := h.2 c
    refine m_aload_n C dX12_tells_47 rfl ?_
    refine m_iload_n C dX12_tells_48 rfl ?_
    refine m_iload C dX12_tells_49 rfl ?_
    refine m_bipush C dX12_tells_51 (by omega) ?_
    refine m_idiv C dX12_tells_53 (by decide) ?_
    refine m_iload C dX12_tells_54 rfl ?_
    refine m_bipush C dX12_tells_56 (by omega) ?_
    refine m_irem C dX12_tells_58 (by decide) ?_
    refine f_callVi (As := [vI l2, vI (w32 (l5.tdiv 6)), vI (l5.tmod 6)]) (st := []) C dX12_tells_59 ml_KilnBenchModel_494 rfl (by decide) rfl rfl rfl (Nat.le_of_ble_eq_true rfl) h (fun r2 μ1 h => ?_)
    refine o_istore [some (vR 34 0), some (vI a1), some (vI l2), some (vI l3), some (vI l4), some (vI l5), some (vI r2)] C dX12_tells_62 (by decide) rfl ?_
    refine m_iload C dX12_tells_64 rfl ?_
    refine m_iload C dX12_tells_66 rfl ?_
    refine m_icmp_lt (tgt := 74) C dX12_tells_68 (by decide) (fun c => ?_) (fun c => ?_)
    · have h := h.1 c
      refine m_iload C dX12_tells_74 rfl ?_
      refine o_istore [some (vR 34 0), some (vI a1), some (vI l2), some (vI l3), some (vI r2), some (vI l5), some (vI r2)] C dX12_tells_76 (by decide) rfl ?_
      refine m_iload C dX12_tells_78 rfl ?_
      refine o_istore_n [some (vR 34 0), some (vI a1), some (vI l2), some (vI l5), some (vI r2), some (vI l5), some (vI r2)] C dX12_tells_80 (by decide) rfl ?_
      refine n_iinc (fun x6 => [some (vR 34 0), some (vI a1), some (vI l2), some (vI l5), some (vI r2), some (vI x6), some (vI r2)]) C dX12_tells_81 rfl (by decide) (fun _ => rfl) (fun x6 ex6 => ?_)
      have h := h x6 ex6
      refine m_goto (tgt := 30) C dX12_tells_84 (by decide) ?_
      exact n_weak (le_same (le_same (le_same (le_same (le_same (le_same (le_none le_nil))))))) h
    · have h := h.2 c
      refine m_goto (tgt := 81) C dX12_tells_71 (by decide) ?_
      refine n_iinc (fun x7 => [some (vR 34 0), some (vI a1), some (vI l2), some (vI l3), some (vI l4), some (vI x7), some (vI r2)]) C dX12_tells_81 rfl (by decide) (fun _ => rfl) (fun x7 ex7 => ?_)
      have h := h x7 ex7
      refine m_goto (tgt := 30) C dX12_tells_84 (by decide) ?_
      exact n_weak (le_same (le_same (le_same (le_same (le_same (le_same (le_none le_nil))))))) h

set_option maxRecDepth 20000 in
theorem VX12_weeks_0 {G : m_G} {X : m_X} {d : Nat} {K : Int → m_M → Prop} (C : mC G X YX12_weeks (d + 1)) (R : r_i G X K) {μ : m_M} {a1 : Int}
    (h : c_i G d YX12_isAhead [vR 34 0, vI a1, vI 1, vI 40] μ (fun r2 μ1 => ((¬ r2 = 0) → c_v G d YX12_keeps [vR 34 0] μ1 (fun μ3 => mW G X YX12_weeks μ3 25 [some (vR 34 0), some (vI a1), some (vI 0), some (vI 0)] [])) ∧ ((r2 = 0) → c_i G d YX12_refuses [vR 34 0, vI 2] μ1 (fun r7 μ6 => K r7 μ6)))) :
    mW G X YX12_weeks μ 0 [some (vR 34 0), some (vI a1), none, none] [] := by
  refine m_aload_n C dX12_weeks_0 rfl ?_
  refine m_iload_n C dX12_weeks_1 rfl ?_
  refine m_iconst C dX12_weeks_2 (by unfold in32; omega) ?_
  refine m_bipush C dX12_weeks_3 (by omega) ?_
  refine f_callVi (As := [vI a1, vI 1, vI 40]) (st := []) C dX12_weeks_5 ml_KilnBenchModel_483 rfl (by decide) rfl rfl rfl (Nat.le_of_ble_eq_true rfl) h (fun r2 μ1 h => ?_)
  refine m_if_ne (tgt := 17) C dX12_weeks_8 (by decide) (fun c => ?_) (fun c => ?_)
  · have h := h.1 c
    refine m_aload_n C dX12_weeks_17 rfl ?_
    refine f_callVv (As := []) (st := []) C dX12_weeks_18 ml_KilnBenchModel_497 rfl (by decide) rfl rfl rfl (Nat.le_of_ble_eq_true rfl) h (fun μ3 h => ?_)
    refine m_iconst C dX12_weeks_21 (by unfold in32; omega) ?_
    refine o_istore_n [some (vR 34 0), some (vI a1), some (vI 0), none] C dX12_weeks_22 (by decide) rfl ?_
    refine m_iconst C dX12_weeks_23 (by unfold in32; omega) ?_
    refine o_istore_n [some (vR 34 0), some (vI a1), some (vI 0), some (vI 0)] C dX12_weeks_24 (by decide) rfl ?_
    exact h
  · have h := h.2 c
    refine m_aload_n C dX12_weeks_11 rfl ?_
    refine m_iconst C dX12_weeks_12 (by unfold in32; omega) ?_
    refine f_callVi (As := [vI 2]) (st := []) C dX12_weeks_13 ml_KilnBenchModel_216 rfl (by decide) rfl rfl rfl (Nat.le_of_ble_eq_true rfl) h (fun r7 μ6 h => ?_)
    exact f_iret C R rfl dX12_weeks_16 h

set_option maxRecDepth 20000 in
theorem VX12_weeks_25 {G : m_G} {X : m_X} {d : Nat} {K : Int → m_M → Prop} (C : mC G X YX12_weeks (d + 1)) (R : r_i G X K) {μ : m_M} {a1 : Int} {l2 : Int} {l3 : Int}
    (h : ((a1 ≤ l3) → K l2 μ) ∧ ((¬ a1 ≤ l3) → c_v G d YX12_ticks [vR 34 0, vI 0, vI 0] μ (fun μ1 => c_i G d YX12_bits [vI (μ1 34 0 57)] μ1 (fun r3 μ2 => ∀ x4 : Int, x4 = w32 (l2 + r3) → ∀ x5 : Int, x5 = w32 (l3 + 1) → mW G X YX12_weeks μ2 25 [some (vR 34 0), some (vI a1), some (vI x4), some (vI x5)] [])))) :
    mW G X YX12_weeks μ 25 [some (vR 34 0), some (vI a1), some (vI l2), some (vI l3)] [] := by
  refine m_iload_n C dX12_weeks_25 rfl ?_
  refine m_iload_n C dX12_weeks_26 rfl ?_
  refine m_icmp_ge (tgt := 52) C dX12_weeks_27 (by decide) (fun c => ?_) (fun c => ?_)
  · have h := h.1 c
    refine m_iload_n C dX12_weeks_52 rfl ?_
    exact f_iret C R rfl dX12_weeks_53 h
  · have h := h.2 c
    refine m_aload_n C dX12_weeks_30 rfl ?_
    refine m_iconst C dX12_weeks_31 (by unfold in32; omega) ?_
    refine m_iconst C dX12_weeks_32 (by unfold in32; omega) ?_
    refine f_callVv (As := [vI 0, vI 0]) (st := []) C dX12_weeks_33 ml_KilnBenchModel_480 rfl (by decide) rfl rfl rfl (Nat.le_of_ble_eq_true rfl) h (fun μ1 h => ?_)
    refine m_iload_n C dX12_weeks_36 rfl ?_
    refine m_aload_n C dX12_weeks_37 rfl ?_
    refine f_getI C dX12_weeks_38 fl_KilnBenchModel_186 rfl (by decide) (by decide) ?_
    refine f_callSi (As := [vI (μ1 34 0 57)]) (st := [vI l2]) C dX12_weeks_41 ml_KilnBenchModel_450 rfl rfl (Nat.le_of_ble_eq_true rfl) h (fun r3 μ2 h => ?_)
    refine m_iadd C dX12_weeks_44 ?_
    refine n_istore_n (fun x4 => [some (vR 34 0), some (vI a1), some (vI x4), some (vI l3)]) C dX12_weeks_45 (by decide) (fun _ => rfl) (fun x4 ex4 => ?_)
    have h := h x4 ex4
    refine n_iinc (fun x5 => [some (vR 34 0), some (vI a1), some (vI x4), some (vI x5)]) C dX12_weeks_46 rfl (by decide) (fun _ => rfl) (fun x5 ex5 => ?_)
    have h := h x5 ex5
    refine m_goto (tgt := 25) C dX12_weeks_49 (by decide) ?_
    exact h

set_option maxRecDepth 20000 in
theorem VX12_draw_0 {G : m_G} {X : m_X} {d : Nat} {K : Int → m_M → Prop} (C : mC G X YX12_draw (d + 1)) (R : r_i G X K) {μ : m_M} {a1 : Int}
    (h : ∀ μ1 : m_M, μ1 = m_up μ 34 0 54 ((w64 ((w64 (1103515245 * (μ 34 0 54))) + 12345)).tmod 2147483648) → a1 ≠ 0 ∧ K (w32 ((w64 ((μ1 34 0 54).tdiv 64)).tmod a1)) μ1) :
    mW G X YX12_draw μ 0 [some (vR 34 0), some (vI a1)] [] := by
  refine m_aload_n C dX12_draw_0 rfl ?_
  refine m_ldc2 (x := 1103515245) C dX12_draw_1 lc_KilnBenchModel_500 rfl ?_
  refine m_aload_n C dX12_draw_4 rfl ?_
  refine f_getJ C dX12_draw_5 fl_KilnBenchModel_177 rfl (by decide) (by decide) ?_
  refine m_lmul C dX12_draw_8 ?_
  refine m_ldc2 (x := 12345) C dX12_draw_9 lc_KilnBenchModel_502 rfl ?_
  refine m_ladd C dX12_draw_12 ?_
  refine m_ldc2 (x := 2147483648) C dX12_draw_13 lc_KilnBenchModel_504 rfl ?_
  refine m_lrem C dX12_draw_16 (by decide) ?_
  refine f_putJ C dX12_draw_17 fl_KilnBenchModel_177 rfl (by decide) (by decide) (by decide) ?_
  refine n_mem (fun μ1 eμ1 => ?_)
  have h := h μ1 eμ1
  refine m_aload_n C dX12_draw_20 rfl ?_
  refine f_getJ C dX12_draw_21 fl_KilnBenchModel_177 rfl (by decide) (by decide) ?_
  refine m_ldc2 (x := 64) C dX12_draw_24 lc_KilnBenchModel_506 rfl ?_
  refine m_ldiv C dX12_draw_27 (by decide) ?_
  refine m_iload_n C dX12_draw_28 rfl ?_
  refine m_i2l C dX12_draw_29 ?_
  obtain ⟨hne, h⟩ := h
  refine m_lrem C dX12_draw_30 hne ?_
  refine m_l2i C dX12_draw_31 ?_
  exact f_iret C R rfl dX12_draw_32 h

set_option maxRecDepth 20000 in
theorem VX12_chance_0 {G : m_G} {X : m_X} {d : Nat} {K : Int → m_M → Prop} (C : mC G X YX12_chance (d + 1)) (R : r_i G X K) {μ : m_M} {a1 : Int}
    (h : c_i G d YX12_isAhead [vR 34 0, vI a1, vI 1, vI 40] μ (fun r2 μ1 => ((¬ r2 = 0) → c_v G d YX12_keeps [vR 34 0] μ1 (fun μ3 => mW G X YX12_chance μ3 25 [some (vR 34 0), some (vI a1), some (vI 0), some (vI 0), none] [])) ∧ ((r2 = 0) → c_i G d YX12_refuses [vR 34 0, vI 2] μ1 (fun r7 μ6 => K r7 μ6)))) :
    mW G X YX12_chance μ 0 [some (vR 34 0), some (vI a1), none, none, none] [] := by
  refine m_aload_n C dX12_chance_0 rfl ?_
  refine m_iload_n C dX12_chance_1 rfl ?_
  refine m_iconst C dX12_chance_2 (by unfold in32; omega) ?_
  refine m_bipush C dX12_chance_3 (by omega) ?_
  refine f_callVi (As := [vI a1, vI 1, vI 40]) (st := []) C dX12_chance_5 ml_KilnBenchModel_483 rfl (by decide) rfl rfl rfl (Nat.le_of_ble_eq_true rfl) h (fun r2 μ1 h => ?_)
  refine m_if_ne (tgt := 17) C dX12_chance_8 (by decide) (fun c => ?_) (fun c => ?_)
  · have h := h.1 c
    refine m_aload_n C dX12_chance_17 rfl ?_
    refine f_callVv (As := []) (st := []) C dX12_chance_18 ml_KilnBenchModel_497 rfl (by decide) rfl rfl rfl (Nat.le_of_ble_eq_true rfl) h (fun μ3 h => ?_)
    refine m_iconst C dX12_chance_21 (by unfold in32; omega) ?_
    refine o_istore_n [some (vR 34 0), some (vI a1), some (vI 0), none, none] C dX12_chance_22 (by decide) rfl ?_
    refine m_iconst C dX12_chance_23 (by unfold in32; omega) ?_
    refine o_istore_n [some (vR 34 0), some (vI a1), some (vI 0), some (vI 0), none] C dX12_chance_24 (by decide) rfl ?_
    exact h
  · have h := h.2 c
    refine m_aload_n C dX12_chance_11 rfl ?_
    refine m_iconst C dX12_chance_12 (by unfold in32; omega) ?_
    refine f_callVi (As := [vI 2]) (st := []) C dX12_chance_13 ml_KilnBenchModel_216 rfl (by decide) rfl rfl rfl (Nat.le_of_ble_eq_true rfl) h (fun r7 μ6 h => ?_)
    exact f_iret C R rfl dX12_chance_16 h

set_option maxRecDepth 20000 in
theorem VX12_chance_25 {G : m_G} {X : m_X} {d : Nat} {K : Int → m_M → Prop} (C : mC G X YX12_chance (d + 1)) (R : r_i G X K) {μ : m_M} {a1 : Int} {l2 : Int} {l3 : Int}
    (h : ((a1 ≤ l3) → K l2 μ) ∧ ((¬ a1 ≤ l3) → c_i G d YX12_draw [vR 34 0, vI 100] μ (fun r2 μ1 => (0 ≤ μ1 34 0 13 ∧ μ1 34 0 13 < 2) ∧ ((μ1 34 22 (μ1 34 0 13).toNat ≤ r2) → ∀ x4 : Int, x4 = w32 (l2 + 0) → c_v G d YX12_ticks [vR 34 0, vI 0, vI 0] μ1 (fun μ5 => ∀ x6 : Int, x6 = w32 (l3 + 1) → mW G X YX12_chance μ5 25 [some (vR 34 0), some (vI a1), some (vI x4), some (vI x6), none] [])) ∧ ((¬ μ1 34 22 (μ1 34 0 13).toNat ≤ r2) → ∀ x8 : Int, x8 = w32 (l2 + 1) → c_i G d YX12_draw [vR 34 0, vI 3] μ1 (fun r10 μ9 => c_v G d YX12_ticks [vR 34 0, vI 0, vI (w32 (1 + r10))] μ9 (fun μ11 => ∀ x12 : Int, x12 = w32 (l3 + 1) → mW G X YX12_chance μ11 25 [some (vR 34 0), some (vI a1), some (vI x8), some (vI x12), none] [])))))) :
    mW G X YX12_chance μ 25 [some (vR 34 0), some (vI a1), some (vI l2), some (vI l3), none] [] := by
  refine m_iload_n C dX12_chance_25 rfl ?_
  refine m_iload_n C dX12_chance_26 rfl ?_
  refine m_icmp_ge (tgt := 95) C dX12_chance_27 (by decide) (fun c => ?_) (fun c => ?_)
  · have h := h.1 c
    refine m_iload_n C dX12_chance_95 rfl ?_
    exact f_iret C R rfl dX12_chance_96 h
  · have h := h.2 c
    refine m_aload_n C dX12_chance_30 rfl ?_
    refine m_bipush C dX12_chance_31 (by omega) ?_
    refine f_callVi (As := [vI 100]) (st := []) C dX12_chance_33 ml_KilnBenchModel_508 rfl (by decide) rfl rfl rfl (Nat.le_of_ble_eq_true rfl) h (fun r2 μ1 h => ?_)
    refine m_aload_n C dX12_chance_36 rfl ?_
    refine f_getA C dX12_chance_37 fl_KilnBenchModel_75 rfl (by decide) (by decide) (by decide) (by decide) ?_
    refine m_aload_n C dX12_chance_40 rfl ?_
    refine f_getI C dX12_chance_41 fl_KilnBenchModel_51 rfl (by decide) (by decide) ?_
    obtain ⟨hb, h⟩ := h
    refine f_iald C dX12_chance_44 (m_arO (a := 0) (len := 2) rfl rfl) (by decide) hb ?_
    refine m_icmp_ge (tgt := 52) C dX12_chance_45 (by decide) (fun c => ?_) (fun c => ?_)
    · have h := h.1 c
      refine m_iconst C dX12_chance_52 (by unfold in32; omega) ?_
      refine o_istore [some (vR 34 0), some (vI a1), some (vI l2), some (vI l3), some (vI 0)] C dX12_chance_53 (by decide) rfl ?_
      refine m_iload_n C dX12_chance_55 rfl ?_
      refine m_iload C dX12_chance_56 rfl ?_
      refine m_if_eq (tgt := 65) C dX12_chance_58 (by decide) (fun c => ?_) (fun c => absurd c (by decide))
      refine m_iconst C dX12_chance_65 (by unfold in32; omega) ?_
      refine m_iadd C dX12_chance_66 ?_
      refine n_istore_n (fun x4 => [some (vR 34 0), some (vI a1), some (vI x4), some (vI l3), some (vI 0)]) C dX12_chance_67 (by decide) (fun _ => rfl) (fun x4 ex4 => ?_)
      have h := h x4 ex4
      refine m_aload_n C dX12_chance_68 rfl ?_
      refine m_iconst C dX12_chance_69 (by unfold in32; omega) ?_
      refine m_iload C dX12_chance_70 rfl ?_
      refine m_if_eq (tgt := 85) C dX12_chance_72 (by decide) (fun c => ?_) (fun c => absurd c (by decide))
      refine m_iconst C dX12_chance_85 (by unfold in32; omega) ?_
      refine f_callVv (As := [vI 0, vI 0]) (st := []) C dX12_chance_86 ml_KilnBenchModel_480 rfl (by decide) rfl rfl rfl (Nat.le_of_ble_eq_true rfl) h (fun μ5 h => ?_)
      refine n_iinc (fun x6 => [some (vR 34 0), some (vI a1), some (vI x4), some (vI x6), some (vI 0)]) C dX12_chance_89 rfl (by decide) (fun _ => rfl) (fun x6 ex6 => ?_)
      have h := h x6 ex6
      refine m_goto (tgt := 25) C dX12_chance_92 (by decide) ?_
      exact n_weak (le_same (le_same (le_same (le_same (le_none le_nil))))) h
    · have h := h.2 c
      refine m_iconst C dX12_chance_48 (by unfold in32; omega) ?_
      refine m_goto (tgt := 53) C dX12_chance_49 (by decide) ?_
      refine o_istore [some (vR 34 0), some (vI a1), some (vI l2), some (vI l3), some (vI 1)] C dX12_chance_53 (by decide) rfl ?_
      refine m_iload_n C dX12_chance_55 rfl ?_
      refine m_iload C dX12_chance_56 rfl ?_
      refine m_if_eq (tgt := 65) C dX12_chance_58 (by decide) (fun c => absurd c (by decide)) (fun c => ?_)
      refine m_iconst C dX12_chance_61 (by unfold in32; omega) ?_
      refine m_goto (tgt := 66) C dX12_chance_62 (by decide) ?_
      refine m_iadd C dX12_chance_66 ?_
      refine n_istore_n (fun x8 => [some (vR 34 0), some (vI a1), some (vI x8), some (vI l3), some (vI 1)]) C dX12_chance_67 (by decide) (fun _ => rfl) (fun x8 ex8 => ?_)
      have h := h x8 ex8
      refine m_aload_n C dX12_chance_68 rfl ?_
      refine m_iconst C dX12_chance_69 (by unfold in32; omega) ?_
      refine m_iload C dX12_chance_70 rfl ?_
      refine m_if_eq (tgt := 85) C dX12_chance_72 (by decide) (fun c => absurd c (by decide)) (fun c => ?_)
      refine m_iconst C dX12_chance_75 (by unfold in32; omega) ?_
      refine m_aload_n C dX12_chance_76 rfl ?_
      refine m_iconst C dX12_chance_77 (by unfold in32; omega) ?_
      refine f_callVi (As := [vI 3]) (st := [vI 1, vI 0, vR 34 0]) C dX12_chance_78 ml_KilnBenchModel_508 rfl (by decide) rfl rfl rfl (Nat.le_of_ble_eq_true rfl) h (fun r10 μ9 h => ?_)
      refine m_iadd C dX12_chance_81 ?_
      refine m_goto (tgt := 86) C dX12_chance_82 (by decide) ?_
      refine f_callVv (As := [vI 0, vI (w32 (1 + r10))]) (st := []) C dX12_chance_86 ml_KilnBenchModel_480 rfl (by decide) rfl rfl rfl (Nat.le_of_ble_eq_true rfl) h (fun μ11 h => ?_)
      refine n_iinc (fun x12 => [some (vR 34 0), some (vI a1), some (vI x8), some (vI x12), some (vI 1)]) C dX12_chance_89 rfl (by decide) (fun _ => rfl) (fun x12 ex12 => ?_)
      have h := h x12 ex12
      refine m_goto (tgt := 25) C dX12_chance_92 (by decide) ?_
      exact n_weak (le_same (le_same (le_same (le_same (le_none le_nil))))) h

set_option maxRecDepth 20000 in
theorem VX12_set_0 {G : m_G} {X : m_X} {d : Nat} {K : Int → m_M → Prop} (C : mC G X YX12_set (d + 1)) (R : r_i G X K) {μ : m_M} {a1 : Int} {a2 : Int} {a3 : Int}
    (h : c_i G d YX12_isChild [vR 34 0, vI a1] μ (fun r2 μ1 => ((r2 = 0) → c_i G d YX12_refuses [vR 34 0, vI 3] μ1 (fun r4 μ3 => ((r4 < 0) → K 0 μ3) ∧ ((¬ r4 < 0) → K 1 μ3))) ∧ ((¬ r2 = 0) → (0 ≤ a1 ∧ a1 < 176) ∧ ((¬ (μ1 34 47 a1.toNat) = (-1)) → c_i G d YX12_refuses [vR 34 0, vI 3] μ1 (fun r6 μ5 => ((r6 < 0) → K 0 μ5) ∧ ((¬ r6 < 0) → K 1 μ5))) ∧ ((μ1 34 47 a1.toNat = (-1)) → c_i G d YX12_isPlaceOf [vR 34 0, vI a2, vI a3] μ1 (fun r8 μ7 => ((r8 = 0) → c_i G d YX12_refuses [vR 34 0, vI 3] μ7 (fun r10 μ9 => ((r10 < 0) → K 0 μ9) ∧ ((¬ r10 < 0) → K 1 μ9))) ∧ ((¬ r8 = 0) → c_i G d YX12_inPlace [vR 34 0, vI 0, vI a2, vI a3] μ7 (fun r12 μ11 => ((r12 = (-1)) → c_v G d YX12_keeps [vR 34 0] μ11 (fun μ13 => (0 ≤ a1 ∧ a1 < 176) ∧ ∀ μ14 : m_M, μ14 = m_up μ13 34 45 a1.toNat a2 → (0 ≤ a1 ∧ a1 < 176) ∧ ∀ μ15 : m_M, μ15 = m_up μ14 34 46 a1.toNat a3 → K 1 μ15)) ∧ ((¬ r12 = (-1)) → c_i G d YX12_refuses [vR 34 0, vI 3] μ11 (fun r17 μ16 => ((r17 < 0) → K 0 μ16) ∧ ((¬ r17 < 0) → K 1 μ16)))))))))) :
    mW G X YX12_set μ 0 [some (vR 34 0), some (vI a1), some (vI a2), some (vI a3)] [] := by
  refine m_aload_n C dX12_set_0 rfl ?_
  refine m_iload_n C dX12_set_1 rfl ?_
  refine f_callVi (As := [vI a1]) (st := []) C dX12_set_2 ml_KilnBenchModel_453 rfl (by decide) rfl rfl rfl (Nat.le_of_ble_eq_true rfl) h (fun r2 μ1 h => ?_)
  refine m_if_eq (tgt := 38) C dX12_set_5 (by decide) (fun c => ?_) (fun c => ?_)
  · have h := h.1 c
    refine m_aload_n C dX12_set_38 rfl ?_
    refine m_iconst C dX12_set_39 (by unfold in32; omega) ?_
    refine f_callVi (As := [vI 3]) (st := []) C dX12_set_40 ml_KilnBenchModel_216 rfl (by decide) rfl rfl rfl (Nat.le_of_ble_eq_true rfl) h (fun r4 μ3 h => ?_)
    refine m_if_lt (tgt := 50) C dX12_set_43 (by decide) (fun c => ?_) (fun c => ?_)
    · have h := h.1 c
      refine m_iconst C dX12_set_50 (by unfold in32; omega) ?_
      exact f_zret C R rfl dX12_set_51 (by decide) h
    · have h := h.2 c
      refine m_iconst C dX12_set_46 (by unfold in32; omega) ?_
      refine m_goto (tgt := 51) C dX12_set_47 (by decide) ?_
      exact f_zret C R rfl dX12_set_51 (by decide) h
  · have h := h.2 c
    refine m_aload_n C dX12_set_8 rfl ?_
    refine f_getA C dX12_set_9 fl_KilnBenchModel_153 rfl (by decide) (by decide) (by decide) (by decide) ?_
    refine m_iload_n C dX12_set_12 rfl ?_
    obtain ⟨hb, h⟩ := h
    refine f_iald C dX12_set_13 (m_arO (a := 0) (len := 176) rfl rfl) (by decide) hb ?_
    refine m_iconst C dX12_set_14 (by unfold in32; omega) ?_
    refine m_icmp_ne (tgt := 38) C dX12_set_15 (by decide) (fun c => ?_) (fun c => ?_)
    · have h := h.1 c
      refine m_aload_n C dX12_set_38 rfl ?_
      refine m_iconst C dX12_set_39 (by unfold in32; omega) ?_
      refine f_callVi (As := [vI 3]) (st := []) C dX12_set_40 ml_KilnBenchModel_216 rfl (by decide) rfl rfl rfl (Nat.le_of_ble_eq_true rfl) h (fun r6 μ5 h => ?_)
      refine m_if_lt (tgt := 50) C dX12_set_43 (by decide) (fun c => ?_) (fun c => ?_)
      · have h := h.1 c
        refine m_iconst C dX12_set_50 (by unfold in32; omega) ?_
        exact f_zret C R rfl dX12_set_51 (by decide) h
      · have h := h.2 c
        refine m_iconst C dX12_set_46 (by unfold in32; omega) ?_
        refine m_goto (tgt := 51) C dX12_set_47 (by decide) ?_
        exact f_zret C R rfl dX12_set_51 (by decide) h
    · have h := h.2 c
      refine m_aload_n C dX12_set_18 rfl ?_
      refine m_iload_n C dX12_set_19 rfl ?_
      refine m_iload_n C dX12_set_20 rfl ?_
      refine f_callVi (As := [vI a2, vI a3]) (st := []) C dX12_set_21 ml_KilnBenchModel_462 rfl (by decide) rfl rfl rfl (Nat.le_of_ble_eq_true rfl) h (fun r8 μ7 h => ?_)
      refine m_if_eq (tgt := 38) C dX12_set_24 (by decide) (fun c => ?_) (fun c => ?_)
      · have h := h.1 c
        refine m_aload_n C dX12_set_38 rfl ?_
        refine m_iconst C dX12_set_39 (by unfold in32; omega) ?_
        refine f_callVi (As := [vI 3]) (st := []) C dX12_set_40 ml_KilnBenchModel_216 rfl (by decide) rfl rfl rfl (Nat.le_of_ble_eq_true rfl) h (fun r10 μ9 h => ?_)
        refine m_if_lt (tgt := 50) C dX12_set_43 (by decide) (fun c => ?_) (fun c => ?_)
        · have h := h.1 c
          refine m_iconst C dX12_set_50 (by unfold in32; omega) ?_
          exact f_zret C R rfl dX12_set_51 (by decide) h
        · have h := h.2 c
          refine m_iconst C dX12_set_46 (by unfold in32; omega) ?_
          refine m_goto (tgt := 51) C dX12_set_47 (by decide) ?_
          exact f_zret C R rfl dX12_set_51 (by decide) h
      · have h := h.2 c
        refine m_aload_n C dX12_set_27 rfl ?_
        refine m_iconst C dX12_set_28 (by unfold in32; omega) ?_
        refine m_iload_n C dX12_set_29 rfl ?_
        refine m_iload_n C dX12_set_30 rfl ?_
        refine f_callVi (As := [vI 0, vI a2, vI a3]) (st := []) C dX12_set_31 ml_KilnBenchModel_425 rfl (by decide) rfl rfl rfl (Nat.le_of_ble_eq_true rfl) h (fun r12 μ11 h => ?_)
        refine m_iconst C dX12_set_34 (by unfold in32; omega) ?_
        refine m_icmp_eq (tgt := 52) C dX12_set_35 (by decide) (fun c => ?_) (fun c => ?_)
        · have h := h.1 c
          refine m_aload_n C dX12_set_52 rfl ?_
          refine f_callVv (As := []) (st := []) C dX12_set_53 ml_KilnBenchModel_497 rfl (by decide) rfl rfl rfl (Nat.le_of_ble_eq_true rfl) h (fun μ13 h => ?_)
          refine m_aload_n C dX12_set_56 rfl ?_
          refine f_getA C dX12_set_57 fl_KilnBenchModel_147 rfl (by decide) (by decide) (by decide) (by decide) ?_
          refine m_iload_n C dX12_set_60 rfl ?_
          refine m_iload_n C dX12_set_61 rfl ?_
          obtain ⟨hb, h⟩ := h
          refine f_iast C dX12_set_62 (m_arO (a := 0) (len := 176) rfl rfl) (by decide) hb ?_
          refine n_mem (fun μ14 eμ14 => ?_)
          have h := h μ14 eμ14
          refine m_aload_n C dX12_set_63 rfl ?_
          refine f_getA C dX12_set_64 fl_KilnBenchModel_150 rfl (by decide) (by decide) (by decide) (by decide) ?_
          refine m_iload_n C dX12_set_67 rfl ?_
          refine m_iload_n C dX12_set_68 rfl ?_
          obtain ⟨hb, h⟩ := h
          refine f_iast C dX12_set_69 (m_arO (a := 0) (len := 176) rfl rfl) (by decide) hb ?_
          refine n_mem (fun μ15 eμ15 => ?_)
          have h := h μ15 eμ15
          refine m_iconst C dX12_set_70 (by unfold in32; omega) ?_
          exact f_zret C R rfl dX12_set_71 (by decide) h
        · have h := h.2 c
          refine m_aload_n C dX12_set_38 rfl ?_
          refine m_iconst C dX12_set_39 (by unfold in32; omega) ?_
          refine f_callVi (As := [vI 3]) (st := []) C dX12_set_40 ml_KilnBenchModel_216 rfl (by decide) rfl rfl rfl (Nat.le_of_ble_eq_true rfl) h (fun r17 μ16 h => ?_)
          refine m_if_lt (tgt := 50) C dX12_set_43 (by decide) (fun c => ?_) (fun c => ?_)
          · have h := h.1 c
            refine m_iconst C dX12_set_50 (by unfold in32; omega) ?_
            exact f_zret C R rfl dX12_set_51 (by decide) h
          · have h := h.2 c
            refine m_iconst C dX12_set_46 (by unfold in32; omega) ?_
            refine m_goto (tgt := 51) C dX12_set_47 (by decide) ?_
            exact f_zret C R rfl dX12_set_51 (by decide) h

set_option maxRecDepth 20000 in
theorem VX12_take_0 {G : m_G} {X : m_X} {d : Nat} {K : Int → m_M → Prop} (C : mC G X YX12_take (d + 1)) (R : r_i G X K) {μ : m_M} {a1 : Int}
    (h : c_i G d YX12_isChild [vR 34 0, vI a1] μ (fun r2 μ1 => ((r2 = 0) → c_i G d YX12_refuses [vR 34 0, vI 3] μ1 (fun r4 μ3 => ((r4 < 0) → K 0 μ3) ∧ ((¬ r4 < 0) → K 1 μ3))) ∧ ((¬ r2 = 0) → (0 ≤ a1 ∧ a1 < 176) ∧ ((¬ (μ1 34 45 a1.toNat) = (-1)) → c_v G d YX12_keeps [vR 34 0] μ1 (fun μ5 => (0 ≤ a1 ∧ a1 < 176) ∧ ∀ μ6 : m_M, μ6 = m_up μ5 34 45 a1.toNat (-1) → (0 ≤ a1 ∧ a1 < 176) ∧ ∀ μ7 : m_M, μ7 = m_up μ6 34 46 a1.toNat (-1) → K 1 μ7)) ∧ ((μ1 34 45 a1.toNat = (-1)) → c_i G d YX12_refuses [vR 34 0, vI 3] μ1 (fun r9 μ8 => ((r9 < 0) → K 0 μ8) ∧ ((¬ r9 < 0) → K 1 μ8)))))) :
    mW G X YX12_take μ 0 [some (vR 34 0), some (vI a1)] [] := by
  refine m_aload_n C dX12_take_0 rfl ?_
  refine m_iload_n C dX12_take_1 rfl ?_
  refine f_callVi (As := [vI a1]) (st := []) C dX12_take_2 ml_KilnBenchModel_453 rfl (by decide) rfl rfl rfl (Nat.le_of_ble_eq_true rfl) h (fun r2 μ1 h => ?_)
  refine m_if_eq (tgt := 18) C dX12_take_5 (by decide) (fun c => ?_) (fun c => ?_)
  · have h := h.1 c
    refine m_aload_n C dX12_take_18 rfl ?_
    refine m_iconst C dX12_take_19 (by unfold in32; omega) ?_
    refine f_callVi (As := [vI 3]) (st := []) C dX12_take_20 ml_KilnBenchModel_216 rfl (by decide) rfl rfl rfl (Nat.le_of_ble_eq_true rfl) h (fun r4 μ3 h => ?_)
    refine m_if_lt (tgt := 30) C dX12_take_23 (by decide) (fun c => ?_) (fun c => ?_)
    · have h := h.1 c
      refine m_iconst C dX12_take_30 (by unfold in32; omega) ?_
      exact f_zret C R rfl dX12_take_31 (by decide) h
    · have h := h.2 c
      refine m_iconst C dX12_take_26 (by unfold in32; omega) ?_
      refine m_goto (tgt := 31) C dX12_take_27 (by decide) ?_
      exact f_zret C R rfl dX12_take_31 (by decide) h
  · have h := h.2 c
    refine m_aload_n C dX12_take_8 rfl ?_
    refine f_getA C dX12_take_9 fl_KilnBenchModel_147 rfl (by decide) (by decide) (by decide) (by decide) ?_
    refine m_iload_n C dX12_take_12 rfl ?_
    obtain ⟨hb, h⟩ := h
    refine f_iald C dX12_take_13 (m_arO (a := 0) (len := 176) rfl rfl) (by decide) hb ?_
    refine m_iconst C dX12_take_14 (by unfold in32; omega) ?_
    refine m_icmp_ne (tgt := 32) C dX12_take_15 (by decide) (fun c => ?_) (fun c => ?_)
    · have h := h.1 c
      refine m_aload_n C dX12_take_32 rfl ?_
      refine f_callVv (As := []) (st := []) C dX12_take_33 ml_KilnBenchModel_497 rfl (by decide) rfl rfl rfl (Nat.le_of_ble_eq_true rfl) h (fun μ5 h => ?_)
      refine m_aload_n C dX12_take_36 rfl ?_
      refine f_getA C dX12_take_37 fl_KilnBenchModel_147 rfl (by decide) (by decide) (by decide) (by decide) ?_
      refine m_iload_n C dX12_take_40 rfl ?_
      refine m_iconst C dX12_take_41 (by unfold in32; omega) ?_
      obtain ⟨hb, h⟩ := h
      refine f_iast C dX12_take_42 (m_arO (a := 0) (len := 176) rfl rfl) (by decide) hb ?_
      refine n_mem (fun μ6 eμ6 => ?_)
      have h := h μ6 eμ6
      refine m_aload_n C dX12_take_43 rfl ?_
      refine f_getA C dX12_take_44 fl_KilnBenchModel_150 rfl (by decide) (by decide) (by decide) (by decide) ?_
      refine m_iload_n C dX12_take_47 rfl ?_
      refine m_iconst C dX12_take_48 (by unfold in32; omega) ?_
      obtain ⟨hb, h⟩ := h
      refine f_iast C dX12_take_49 (m_arO (a := 0) (len := 176) rfl rfl) (by decide) hb ?_
      refine n_mem (fun μ7 eμ7 => ?_)
      have h := h μ7 eμ7
      refine m_iconst C dX12_take_50 (by unfold in32; omega) ?_
      exact f_zret C R rfl dX12_take_51 (by decide) h
    · have h := h.2 c
      refine m_aload_n C dX12_take_18 rfl ?_
      refine m_iconst C dX12_take_19 (by unfold in32; omega) ?_
      refine f_callVi (As := [vI 3]) (st := []) C dX12_take_20 ml_KilnBenchModel_216 rfl (by decide) rfl rfl rfl (Nat.le_of_ble_eq_true rfl) h (fun r9 μ8 h => ?_)
      refine m_if_lt (tgt := 30) C dX12_take_23 (by decide) (fun c => ?_) (fun c => ?_)
      · have h := h.1 c
        refine m_iconst C dX12_take_30 (by unfold in32; omega) ?_
        exact f_zret C R rfl dX12_take_31 (by decide) h
      · have h := h.2 c
        refine m_iconst C dX12_take_26 (by unfold in32; omega) ?_
        refine m_goto (tgt := 31) C dX12_take_27 (by decide) ?_
        exact f_zret C R rfl dX12_take_31 (by decide) h

set_option maxRecDepth 20000 in
theorem VX12_light_0 {G : m_G} {X : m_X} {d : Nat} {K : Int → m_M → Prop} (C : mC G X YX12_light (d + 1)) (R : r_i G X K) {μ : m_M} {a1 : Int} {a2 : Int}
    (h : c_i G d YX12_isKiln [vR 34 0, vI a1] μ (fun r2 μ1 => ((r2 = 0) → c_i G d YX12_refuses [vR 34 0, vI 3] μ1 (fun r4 μ3 => ((r4 < 0) → K 0 μ3) ∧ ((¬ r4 < 0) → K 1 μ3))) ∧ ((¬ r2 = 0) → c_i G d YX12_is [vI a2, vI (-1), vI 20] μ1 (fun r6 μ5 => ((r6 = 0) → c_i G d YX12_refuses [vR 34 0, vI 3] μ5 (fun r8 μ7 => ((r8 < 0) → K 0 μ7) ∧ ((¬ r8 < 0) → K 1 μ7))) ∧ ((¬ r6 = 0) → (0 ≤ a1 ∧ a1 < 66) ∧ ((¬ (μ5 34 50 a1.toNat) = a2) → c_v G d YX12_keeps [vR 34 0] μ5 (fun μ9 => (0 ≤ a1 ∧ a1 < 66) ∧ ∀ μ10 : m_M, μ10 = m_up μ9 34 50 a1.toNat a2 → K 1 μ10)) ∧ ((μ5 34 50 a1.toNat = a2) → c_i G d YX12_refuses [vR 34 0, vI 3] μ5 (fun r12 μ11 => ((r12 < 0) → K 0 μ11) ∧ ((¬ r12 < 0) → K 1 μ11)))))))) :
    mW G X YX12_light μ 0 [some (vR 34 0), some (vI a1), some (vI a2)] [] := by
  refine m_aload_n C dX12_light_0 rfl ?_
  refine m_iload_n C dX12_light_1 rfl ?_
  refine f_callVi (As := [vI a1]) (st := []) C dX12_light_2 ml_KilnBenchModel_447 rfl (by decide) rfl rfl rfl (Nat.le_of_ble_eq_true rfl) h (fun r2 μ1 h => ?_)
  refine m_if_eq (tgt := 28) C dX12_light_5 (by decide) (fun c => ?_) (fun c => ?_)
  · have h := h.1 c
    refine m_aload_n C dX12_light_28 rfl ?_
    refine m_iconst C dX12_light_29 (by unfold in32; omega) ?_
    refine f_callVi (As := [vI 3]) (st := []) C dX12_light_30 ml_KilnBenchModel_216 rfl (by decide) rfl rfl rfl (Nat.le_of_ble_eq_true rfl) h (fun r4 μ3 h => ?_)
    refine m_if_lt (tgt := 40) C dX12_light_33 (by decide) (fun c => ?_) (fun c => ?_)
    · have h := h.1 c
      refine m_iconst C dX12_light_40 (by unfold in32; omega) ?_
      exact f_zret C R rfl dX12_light_41 (by decide) h
    · have h := h.2 c
      refine m_iconst C dX12_light_36 (by unfold in32; omega) ?_
      refine m_goto (tgt := 41) C dX12_light_37 (by decide) ?_
      exact f_zret C R rfl dX12_light_41 (by decide) h
  · have h := h.2 c
    refine m_iload_n C dX12_light_8 rfl ?_
    refine m_iconst C dX12_light_9 (by unfold in32; omega) ?_
    refine m_bipush C dX12_light_10 (by omega) ?_
    refine f_callSi (As := [vI a2, vI (-1), vI 20]) (st := []) C dX12_light_12 ml_KilnBenchModel_296 rfl rfl (Nat.le_of_ble_eq_true rfl) h (fun r6 μ5 h => ?_)
    refine m_if_eq (tgt := 28) C dX12_light_15 (by decide) (fun c => ?_) (fun c => ?_)
    · have h := h.1 c
      refine m_aload_n C dX12_light_28 rfl ?_
      refine m_iconst C dX12_light_29 (by unfold in32; omega) ?_
      refine f_callVi (As := [vI 3]) (st := []) C dX12_light_30 ml_KilnBenchModel_216 rfl (by decide) rfl rfl rfl (Nat.le_of_ble_eq_true rfl) h (fun r8 μ7 h => ?_)
      refine m_if_lt (tgt := 40) C dX12_light_33 (by decide) (fun c => ?_) (fun c => ?_)
      · have h := h.1 c
        refine m_iconst C dX12_light_40 (by unfold in32; omega) ?_
        exact f_zret C R rfl dX12_light_41 (by decide) h
      · have h := h.2 c
        refine m_iconst C dX12_light_36 (by unfold in32; omega) ?_
        refine m_goto (tgt := 41) C dX12_light_37 (by decide) ?_
        exact f_zret C R rfl dX12_light_41 (by decide) h
    · have h := h.2 c
      refine m_aload_n C dX12_light_18 rfl ?_
      refine f_getA C dX12_light_19 fl_KilnBenchModel_162 rfl (by decide) (by decide) (by decide) (by decide) ?_
      refine m_iload_n C dX12_light_22 rfl ?_
      obtain ⟨hb, h⟩ := h
      refine f_iald C dX12_light_23 (m_arO (a := 0) (len := 66) rfl rfl) (by decide) hb ?_
      refine m_iload_n C dX12_light_24 rfl ?_
      refine m_icmp_ne (tgt := 42) C dX12_light_25 (by decide) (fun c => ?_) (fun c => ?_)
      · have h := h.1 c
        refine m_aload_n C dX12_light_42 rfl ?_
        refine f_callVv (As := []) (st := []) C dX12_light_43 ml_KilnBenchModel_497 rfl (by decide) rfl rfl rfl (Nat.le_of_ble_eq_true rfl) h (fun μ9 h => ?_)
        refine m_aload_n C dX12_light_46 rfl ?_
        refine f_getA C dX12_light_47 fl_KilnBenchModel_162 rfl (by decide) (by decide) (by decide) (by decide) ?_
        refine m_iload_n C dX12_light_50 rfl ?_
        refine m_iload_n C dX12_light_51 rfl ?_
        obtain ⟨hb, h⟩ := h
        refine f_iast C dX12_light_52 (m_arO (a := 0) (len := 66) rfl rfl) (by decide) hb ?_
        refine n_mem (fun μ10 eμ10 => ?_)
        have h := h μ10 eμ10
        refine m_iconst C dX12_light_53 (by unfold in32; omega) ?_
        exact f_zret C R rfl dX12_light_54 (by decide) h
      · have h := h.2 c
        refine m_aload_n C dX12_light_28 rfl ?_
        refine m_iconst C dX12_light_29 (by unfold in32; omega) ?_
        refine f_callVi (As := [vI 3]) (st := []) C dX12_light_30 ml_KilnBenchModel_216 rfl (by decide) rfl rfl rfl (Nat.le_of_ble_eq_true rfl) h (fun r12 μ11 h => ?_)
        refine m_if_lt (tgt := 40) C dX12_light_33 (by decide) (fun c => ?_) (fun c => ?_)
        · have h := h.1 c
          refine m_iconst C dX12_light_40 (by unfold in32; omega) ?_
          exact f_zret C R rfl dX12_light_41 (by decide) h
        · have h := h.2 c
          refine m_iconst C dX12_light_36 (by unfold in32; omega) ?_
          refine m_goto (tgt := 41) C dX12_light_37 (by decide) ?_
          exact f_zret C R rfl dX12_light_41 (by decide) h

set_option maxRecDepth 20000 in
theorem VX12_seed_0 {G : m_G} {X : m_X} {d : Nat} {K : Int → m_M → Prop} (C : mC G X YX12_seed (d + 1)) (R : r_i G X K) {μ : m_M} {a1 : Int}
    (h : ((0 ≤ a1) → ∀ μ1 : m_M, μ1 = m_up μ 34 0 54 a1 → K 1 μ1) ∧ ((¬ 0 ≤ a1) → c_i G d YX12_refuses [vR 34 0, vI 5] μ (fun r3 μ2 => ((r3 < 0) → K 0 μ2) ∧ ((¬ r3 < 0) → K 1 μ2)))) :
    mW G X YX12_seed μ 0 [some (vR 34 0), some (vI a1)] [] := by
  refine m_iload_n C dX12_seed_0 rfl ?_
  refine m_if_ge (tgt := 18) C dX12_seed_1 (by decide) (fun c => ?_) (fun c => ?_)
  · have h := h.1 c
    refine m_aload_n C dX12_seed_18 rfl ?_
    refine m_iload_n C dX12_seed_19 rfl ?_
    refine m_i2l C dX12_seed_20 ?_
    refine f_putJ C dX12_seed_21 fl_KilnBenchModel_177 rfl (by decide) (by decide) (by decide) ?_
    refine n_mem (fun μ1 eμ1 => ?_)
    have h := h μ1 eμ1
    refine m_iconst C dX12_seed_24 (by unfold in32; omega) ?_
    exact f_zret C R rfl dX12_seed_25 (by decide) h
  · have h := h.2 c
    refine m_aload_n C dX12_seed_4 rfl ?_
    refine m_iconst C dX12_seed_5 (by unfold in32; omega) ?_
    refine f_callVi (As := [vI 5]) (st := []) C dX12_seed_6 ml_KilnBenchModel_216 rfl (by decide) rfl rfl rfl (Nat.le_of_ble_eq_true rfl) h (fun r3 μ2 h => ?_)
    refine m_if_lt (tgt := 16) C dX12_seed_9 (by decide) (fun c => ?_) (fun c => ?_)
    · have h := h.1 c
      refine m_iconst C dX12_seed_16 (by unfold in32; omega) ?_
      exact f_zret C R rfl dX12_seed_17 (by decide) h
    · have h := h.2 c
      refine m_iconst C dX12_seed_12 (by unfold in32; omega) ?_
      refine m_goto (tgt := 17) C dX12_seed_13 (by decide) ?_
      exact f_zret C R rfl dX12_seed_17 (by decide) h

set_option maxRecDepth 20000 in
theorem VX12_kept_0 {G : m_G} {X : m_X} {d : Nat} {K : Int → m_M → Prop} (C : mC G X YX12_kept (d + 1)) (R : r_i G X K) {μ : m_M} {a1 : Int} {a2 : Int}
    (h : c_i G d YX12_is [vI a1, vI 0, vI (w32 ((μ 34 51 0) - 1))] μ (fun r2 μ1 => ((r2 = 0) → K (-1) μ1) ∧ ((¬ r2 = 0) → c_i G d YX12_is [vI a2, vI 0, vI 3] μ1 (fun r4 μ3 => ((r4 = 0) → K (-1) μ3) ∧ ((¬ r4 = 0) → (0 ≤ w32 ((w32 (4 * a1)) + a2) ∧ w32 ((w32 (4 * a1)) + a2) < 3520) ∧ K (μ3 34 52 (w32 ((w32 (4 * a1)) + a2)).toNat) μ3))))) :
    mW G X YX12_kept μ 0 [some (vR 34 0), some (vI a1), some (vI a2)] [] := by
  refine m_iload_n C dX12_kept_0 rfl ?_
  refine m_iconst C dX12_kept_1 (by unfold in32; omega) ?_
  refine m_aload_n C dX12_kept_2 rfl ?_
  refine f_getA C dX12_kept_3 fl_KilnBenchModel_165 rfl (by decide) (by decide) (by decide) (by decide) ?_
  refine m_iconst C dX12_kept_6 (by unfold in32; omega) ?_
  refine f_iald C dX12_kept_7 (m_arO (a := 0) (len := 22) rfl rfl) (by decide) (by decide) ?_
  refine m_iconst C dX12_kept_8 (by unfold in32; omega) ?_
  refine m_isub C dX12_kept_9 ?_
  refine f_callSi (As := [vI a1, vI 0, vI (w32 ((μ 34 51 0) - 1))]) (st := []) C dX12_kept_10 ml_KilnBenchModel_296 rfl rfl (Nat.le_of_ble_eq_true rfl) h (fun r2 μ1 h => ?_)
  refine m_if_eq (tgt := 38) C dX12_kept_13 (by decide) (fun c => ?_) (fun c => ?_)
  · have h := h.1 c
    refine m_iconst C dX12_kept_38 (by unfold in32; omega) ?_
    exact f_iret C R rfl dX12_kept_39 h
  · have h := h.2 c
    refine m_iload_n C dX12_kept_16 rfl ?_
    refine m_iconst C dX12_kept_17 (by unfold in32; omega) ?_
    refine m_iconst C dX12_kept_18 (by unfold in32; omega) ?_
    refine f_callSi (As := [vI a2, vI 0, vI 3]) (st := []) C dX12_kept_19 ml_KilnBenchModel_296 rfl rfl (Nat.le_of_ble_eq_true rfl) h (fun r4 μ3 h => ?_)
    refine m_if_eq (tgt := 38) C dX12_kept_22 (by decide) (fun c => ?_) (fun c => ?_)
    · have h := h.1 c
      refine m_iconst C dX12_kept_38 (by unfold in32; omega) ?_
      exact f_iret C R rfl dX12_kept_39 h
    · have h := h.2 c
      refine m_aload_n C dX12_kept_25 rfl ?_
      refine f_getA C dX12_kept_26 fl_KilnBenchModel_168 rfl (by decide) (by decide) (by decide) (by decide) ?_
      refine m_iconst C dX12_kept_29 (by unfold in32; omega) ?_
      refine m_iload_n C dX12_kept_30 rfl ?_
      refine m_imul C dX12_kept_31 ?_
      refine m_iload_n C dX12_kept_32 rfl ?_
      refine m_iadd C dX12_kept_33 ?_
      obtain ⟨hb, h⟩ := h
      refine f_iald C dX12_kept_34 (m_arO (a := 0) (len := 3520) rfl rfl) (by decide) hb ?_
      refine m_goto (tgt := 39) C dX12_kept_35 (by decide) ?_
      exact f_iret C R rfl dX12_kept_39 h

set_option maxRecDepth 20000 in
theorem VX12_writes_0 {G : m_G} {X : m_X} {d : Nat} {K : m_M → Prop} (C : mC G X YX12_writes (d + 1)) (R : r_v G X K) {μ : m_M} {a1 : Int}
    (h : (0 ≤ μ 34 0 66 ∧ μ 34 0 66 < 60) ∧ ∀ μ1 : m_M, μ1 = m_up μ 34 66 (μ 34 0 66).toNat (i_and a1 255) → ∀ μ2 : m_M, μ2 = m_up μ1 34 0 66 (w32 ((μ1 34 0 66) + 1)) → K μ2) :
    mW G X YX12_writes μ 0 [some (vR 34 0), some (vI a1)] [] := by
  refine m_aload_n C dX12_writes_0 rfl ?_
  refine f_getA C dX12_writes_1 fl_KilnBenchModel_210 rfl (by decide) (by decide) (by decide) (by decide) ?_
  refine m_aload_n C dX12_writes_4 rfl ?_
  refine f_getI C dX12_writes_5 fl_KilnBenchModel_213 rfl (by decide) (by decide) ?_
  refine m_iload_n C dX12_writes_8 rfl ?_
  refine m_sipush C dX12_writes_9 (by omega) ?_
  refine m_iand C dX12_writes_12 ?_
  obtain ⟨hb, h⟩ := h
  refine f_iast C dX12_writes_13 (m_arO (a := 0) (len := 60) rfl rfl) (by decide) hb ?_
  refine n_mem (fun μ1 eμ1 => ?_)
  have h := h μ1 eμ1
  refine m_aload_n C dX12_writes_14 rfl ?_
  refine m_dup C dX12_writes_15 rfl ?_
  refine f_getI C dX12_writes_16 fl_KilnBenchModel_213 rfl (by decide) (by decide) ?_
  refine m_iconst C dX12_writes_19 (by unfold in32; omega) ?_
  refine m_iadd C dX12_writes_20 ?_
  refine f_putI C dX12_writes_21 fl_KilnBenchModel_213 rfl (by decide) (by decide) (by decide) ?_
  refine n_mem (fun μ2 eμ2 => ?_)
  have h := h μ2 eμ2
  exact f_vret C R rfl dX12_writes_24 h

set_option maxRecDepth 20000 in
theorem VX12_image_0 {G : m_G} {X : m_X} {d : Nat} {K : Int → m_M → Prop} (C : mC G X YX12_image (d + 1)) (R : r_i G X K) {μ : m_M}
    (h : ∀ μ1 : m_M, μ1 = m_up μ 34 0 66 0 → c_v G d YX12_writes [vR 34 0, vI (i_shr (μ1 34 43 0) 8)] μ1 (fun μ2 => c_v G d YX12_writes [vR 34 0, vI (μ2 34 43 0)] μ2 (fun μ3 => c_v G d YX12_writes [vR 34 0, vI (i_shr (μ3 34 44 0) 8)] μ3 (fun μ4 => c_v G d YX12_writes [vR 34 0, vI (μ4 34 44 0)] μ4 (fun μ5 => mW G X YX12_image μ5 53 [some (vR 34 0), some (vI 0), none] []))))) :
    mW G X YX12_image μ 0 [some (vR 34 0), none, none] [] := by
  refine m_aload_n C dX12_image_0 rfl ?_
  refine m_iconst C dX12_image_1 (by unfold in32; omega) ?_
  refine f_putI C dX12_image_2 fl_KilnBenchModel_213 rfl (by decide) (by decide) (by decide) ?_
  refine n_mem (fun μ1 eμ1 => ?_)
  have h := h μ1 eμ1
  refine m_aload_n C dX12_image_5 rfl ?_
  refine m_aload_n C dX12_image_6 rfl ?_
  refine f_getA C dX12_image_7 fl_KilnBenchModel_141 rfl (by decide) (by decide) (by decide) (by decide) ?_
  refine m_iconst C dX12_image_10 (by unfold in32; omega) ?_
  refine f_iald C dX12_image_11 (m_arO (a := 0) (len := 22) rfl rfl) (by decide) (by decide) ?_
  refine m_bipush C dX12_image_12 (by omega) ?_
  refine m_ishr C dX12_image_14 ?_
  refine f_callVv (As := [vI (i_shr (μ1 34 43 0) 8)]) (st := []) C dX12_image_15 ml_KilnBenchModel_511 rfl (by decide) rfl rfl rfl (Nat.le_of_ble_eq_true rfl) h (fun μ2 h => ?_)
  refine m_aload_n C dX12_image_18 rfl ?_
  refine m_aload_n C dX12_image_19 rfl ?_
  refine f_getA C dX12_image_20 fl_KilnBenchModel_141 rfl (by decide) (by decide) (by decide) (by decide) ?_
  refine m_iconst C dX12_image_23 (by unfold in32; omega) ?_
  refine f_iald C dX12_image_24 (m_arO (a := 0) (len := 22) rfl rfl) (by decide) (by decide) ?_
  refine f_callVv (As := [vI (μ2 34 43 0)]) (st := []) C dX12_image_25 ml_KilnBenchModel_511 rfl (by decide) rfl rfl rfl (Nat.le_of_ble_eq_true rfl) h (fun μ3 h => ?_)
  refine m_aload_n C dX12_image_28 rfl ?_
  refine m_aload_n C dX12_image_29 rfl ?_
  refine f_getA C dX12_image_30 fl_KilnBenchModel_144 rfl (by decide) (by decide) (by decide) (by decide) ?_
  refine m_iconst C dX12_image_33 (by unfold in32; omega) ?_
  refine f_iald C dX12_image_34 (m_arO (a := 0) (len := 22) rfl rfl) (by decide) (by decide) ?_
  refine m_bipush C dX12_image_35 (by omega) ?_
  refine m_ishr C dX12_image_37 ?_
  refine f_callVv (As := [vI (i_shr (μ3 34 44 0) 8)]) (st := []) C dX12_image_38 ml_KilnBenchModel_511 rfl (by decide) rfl rfl rfl (Nat.le_of_ble_eq_true rfl) h (fun μ4 h => ?_)
  refine m_aload_n C dX12_image_41 rfl ?_
  refine m_aload_n C dX12_image_42 rfl ?_
  refine f_getA C dX12_image_43 fl_KilnBenchModel_144 rfl (by decide) (by decide) (by decide) (by decide) ?_
  refine m_iconst C dX12_image_46 (by unfold in32; omega) ?_
  refine f_iald C dX12_image_47 (m_arO (a := 0) (len := 22) rfl rfl) (by decide) (by decide) ?_
  refine f_callVv (As := [vI (μ4 34 44 0)]) (st := []) C dX12_image_48 ml_KilnBenchModel_511 rfl (by decide) rfl rfl rfl (Nat.le_of_ble_eq_true rfl) h (fun μ5 h => ?_)
  refine m_iconst C dX12_image_51 (by unfold in32; omega) ?_
  refine o_istore_n [some (vR 34 0), some (vI 0), none] C dX12_image_52 (by decide) rfl ?_
  exact h

set_option maxRecDepth 20000 in
theorem VX12_image_53 {G : m_G} {X : m_X} {d : Nat} {K : Int → m_M → Prop} (C : mC G X YX12_image (d + 1)) (R : r_i G X K) {μ : m_M} {l1 : Int}
    (h : (0 ≤ μ 34 0 13 ∧ μ 34 0 13 < 2) ∧ ((μ 34 15 (μ 34 0 13).toNat ≤ l1) → mW G X YX12_image μ 155 [some (vR 34 0), some (vI 0), none] []) ∧ ((¬ μ 34 15 (μ 34 0 13).toNat ≤ l1) → (0 ≤ l1 ∧ l1 < 176) ∧ ((¬ (μ 34 47 l1.toNat) = (-1)) → c_v G d YX12_writes [vR 34 0, vI 1] μ (fun μ2 => (0 ≤ l1 ∧ l1 < 176) ∧ c_v G d YX12_writes [vR 34 0, vI (μ2 34 45 l1.toNat)] μ2 (fun μ3 => (0 ≤ l1 ∧ l1 < 176) ∧ c_v G d YX12_writes [vR 34 0, vI (μ3 34 46 l1.toNat)] μ3 (fun μ4 => (0 ≤ l1 ∧ l1 < 176) ∧ c_v G d YX12_writes [vR 34 0, vI (μ4 34 47 l1.toNat)] μ4 (fun μ5 => c_i G d YX12_has2 [vI (μ5 34 49 0), vI l1] μ5 (fun r7 μ6 => ((r7 = 0) → c_v G d YX12_writes [vR 34 0, vI 0] μ6 (fun μ8 => (0 ≤ l1 ∧ l1 < 176) ∧ c_v G d YX12_writes [vR 34 0, vI (μ8 34 48 l1.toNat)] μ8 (fun μ9 => ∀ x10 : Int, x10 = w32 (l1 + 1) → mW G X YX12_image μ9 53 [some (vR 34 0), some (vI x10), none] []))) ∧ ((¬ r7 = 0) → c_v G d YX12_writes [vR 34 0, vI 1] μ6 (fun μ11 => (0 ≤ l1 ∧ l1 < 176) ∧ c_v G d YX12_writes [vR 34 0, vI (μ11 34 48 l1.toNat)] μ11 (fun μ12 => ∀ x13 : Int, x13 = w32 (l1 + 1) → mW G X YX12_image μ12 53 [some (vR 34 0), some (vI x13), none] []))))))))) ∧ ((μ 34 47 l1.toNat = (-1)) → c_v G d YX12_writes [vR 34 0, vI 0] μ (fun μ14 => (0 ≤ l1 ∧ l1 < 176) ∧ c_v G d YX12_writes [vR 34 0, vI (μ14 34 45 l1.toNat)] μ14 (fun μ15 => (0 ≤ l1 ∧ l1 < 176) ∧ c_v G d YX12_writes [vR 34 0, vI (μ15 34 46 l1.toNat)] μ15 (fun μ16 => (0 ≤ l1 ∧ l1 < 176) ∧ c_v G d YX12_writes [vR 34 0, vI (μ16 34 47 l1.toNat)] μ16 (fun μ17 => c_i G d YX12_has2 [vI (μ17 34 49 0), vI l1] μ17 (fun r19 μ18 => ((r19 = 0) → c_v G d YX12_writes [vR 34 0, vI 0] μ18 (fun μ20 => (0 ≤ l1 ∧ l1 < 176) ∧ c_v G d YX12_writes [vR 34 0, vI (μ20 34 48 l1.toNat)] μ20 (fun μ21 => ∀ x22 : Int, x22 = w32 (l1 + 1) → mW G X YX12_image μ21 53 [some (vR 34 0), some (vI x22), none] []))) ∧ ((¬ r19 = 0) → c_v G d YX12_writes [vR 34 0, vI 1] μ18 (fun μ23 => (0 ≤ l1 ∧ l1 < 176) ∧ c_v G d YX12_writes [vR 34 0, vI (μ23 34 48 l1.toNat)] μ23 (fun μ24 => ∀ x25 : Int, x25 = w32 (l1 + 1) → mW G X YX12_image μ24 53 [some (vR 34 0), some (vI x25), none] []))))))))))) :
    mW G X YX12_image μ 53 [some (vR 34 0), some (vI l1), none] [] := by
  refine m_iload_n C dX12_image_53 rfl ?_
  refine m_aload_n C dX12_image_54 rfl ?_
  refine f_getA C dX12_image_55 fl_KilnBenchModel_54 rfl (by decide) (by decide) (by decide) (by decide) ?_
  refine m_aload_n C dX12_image_58 rfl ?_
  refine f_getI C dX12_image_59 fl_KilnBenchModel_51 rfl (by decide) (by decide) ?_
  obtain ⟨hb, h⟩ := h
  refine f_iald C dX12_image_62 (m_arO (a := 0) (len := 2) rfl rfl) (by decide) hb ?_
  refine m_icmp_ge (tgt := 153) C dX12_image_63 (by decide) (fun c => ?_) (fun c => ?_)
  · have h := h.1 c
    refine m_iconst C dX12_image_153 (by unfold in32; omega) ?_
    refine o_istore_n [some (vR 34 0), some (vI 0), none] C dX12_image_154 (by decide) rfl ?_
    exact h
  · have h := h.2 c
    refine m_aload_n C dX12_image_66 rfl ?_
    refine m_aload_n C dX12_image_67 rfl ?_
    refine f_getA C dX12_image_68 fl_KilnBenchModel_153 rfl (by decide) (by decide) (by decide) (by decide) ?_
    refine m_iload_n C dX12_image_71 rfl ?_
    obtain ⟨hb, h⟩ := h
    refine f_iald C dX12_image_72 (m_arO (a := 0) (len := 176) rfl rfl) (by decide) hb ?_
    refine m_iconst C dX12_image_73 (by unfold in32; omega) ?_
    refine m_icmp_ne (tgt := 81) C dX12_image_74 (by decide) (fun c => ?_) (fun c => ?_)
    · have h := h.1 c
      refine m_iconst C dX12_image_81 (by unfold in32; omega) ?_
      refine f_callVv (As := [vI 1]) (st := []) C dX12_image_82 ml_KilnBenchModel_511 rfl (by decide) rfl rfl rfl (Nat.le_of_ble_eq_true rfl) h (fun μ2 h => ?_)
      refine m_aload_n C dX12_image_85 rfl ?_
      refine m_aload_n C dX12_image_86 rfl ?_
      refine f_getA C dX12_image_87 fl_KilnBenchModel_147 rfl (by decide) (by decide) (by decide) (by decide) ?_
      refine m_iload_n C dX12_image_90 rfl ?_
      obtain ⟨hb, h⟩ := h
      refine f_iald C dX12_image_91 (m_arO (a := 0) (len := 176) rfl rfl) (by decide) hb ?_
      refine f_callVv (As := [vI (μ2 34 45 l1.toNat)]) (st := []) C dX12_image_92 ml_KilnBenchModel_511 rfl (by decide) rfl rfl rfl (Nat.le_of_ble_eq_true rfl) h (fun μ3 h => ?_)
      refine m_aload_n C dX12_image_95 rfl ?_
      refine m_aload_n C dX12_image_96 rfl ?_
      refine f_getA C dX12_image_97 fl_KilnBenchModel_150 rfl (by decide) (by decide) (by decide) (by decide) ?_
      refine m_iload_n C dX12_image_100 rfl ?_
      obtain ⟨hb, h⟩ := h
      refine f_iald C dX12_image_101 (m_arO (a := 0) (len := 176) rfl rfl) (by decide) hb ?_
      refine f_callVv (As := [vI (μ3 34 46 l1.toNat)]) (st := []) C dX12_image_102 ml_KilnBenchModel_511 rfl (by decide) rfl rfl rfl (Nat.le_of_ble_eq_true rfl) h (fun μ4 h => ?_)
      refine m_aload_n C dX12_image_105 rfl ?_
      refine m_aload_n C dX12_image_106 rfl ?_
      refine f_getA C dX12_image_107 fl_KilnBenchModel_153 rfl (by decide) (by decide) (by decide) (by decide) ?_
      refine m_iload_n C dX12_image_110 rfl ?_
      obtain ⟨hb, h⟩ := h
      refine f_iald C dX12_image_111 (m_arO (a := 0) (len := 176) rfl rfl) (by decide) hb ?_
      refine f_callVv (As := [vI (μ4 34 47 l1.toNat)]) (st := []) C dX12_image_112 ml_KilnBenchModel_511 rfl (by decide) rfl rfl rfl (Nat.le_of_ble_eq_true rfl) h (fun μ5 h => ?_)
      refine m_aload_n C dX12_image_115 rfl ?_
      refine m_aload_n C dX12_image_116 rfl ?_
      refine f_getA C dX12_image_117 fl_KilnBenchModel_159 rfl (by decide) (by decide) (by decide) (by decide) ?_
      refine m_iconst C dX12_image_120 (by unfold in32; omega) ?_
      refine f_iald C dX12_image_121 (m_arO (a := 0) (len := 22) rfl rfl) (by decide) (by decide) ?_
      refine m_iload_n C dX12_image_122 rfl ?_
      refine f_callSi (As := [vI (μ5 34 49 0), vI l1]) (st := [vR 34 0]) C dX12_image_123 ml_KilnBenchModel_458 rfl rfl (Nat.le_of_ble_eq_true rfl) h (fun r7 μ6 h => ?_)
      refine m_if_eq (tgt := 133) C dX12_image_126 (by decide) (fun c => ?_) (fun c => ?_)
      · have h := h.1 c
        refine m_iconst C dX12_image_133 (by unfold in32; omega) ?_
        refine f_callVv (As := [vI 0]) (st := []) C dX12_image_134 ml_KilnBenchModel_511 rfl (by decide) rfl rfl rfl (Nat.le_of_ble_eq_true rfl) h (fun μ8 h => ?_)
        refine m_aload_n C dX12_image_137 rfl ?_
        refine m_aload_n C dX12_image_138 rfl ?_
        refine f_getA C dX12_image_139 fl_KilnBenchModel_156 rfl (by decide) (by decide) (by decide) (by decide) ?_
        refine m_iload_n C dX12_image_142 rfl ?_
        obtain ⟨hb, h⟩ := h
        refine f_iald C dX12_image_143 (m_arO (a := 0) (len := 176) rfl rfl) (by decide) hb ?_
        refine f_callVv (As := [vI (μ8 34 48 l1.toNat)]) (st := []) C dX12_image_144 ml_KilnBenchModel_511 rfl (by decide) rfl rfl rfl (Nat.le_of_ble_eq_true rfl) h (fun μ9 h => ?_)
        refine n_iinc (fun x10 => [some (vR 34 0), some (vI x10), none]) C dX12_image_147 rfl (by decide) (fun _ => rfl) (fun x10 ex10 => ?_)
        have h := h x10 ex10
        refine m_goto (tgt := 53) C dX12_image_150 (by decide) ?_
        exact h
      · have h := h.2 c
        refine m_iconst C dX12_image_129 (by unfold in32; omega) ?_
        refine m_goto (tgt := 134) C dX12_image_130 (by decide) ?_
        refine f_callVv (As := [vI 1]) (st := []) C dX12_image_134 ml_KilnBenchModel_511 rfl (by decide) rfl rfl rfl (Nat.le_of_ble_eq_true rfl) h (fun μ11 h => ?_)
        refine m_aload_n C dX12_image_137 rfl ?_
        refine m_aload_n C dX12_image_138 rfl ?_
        refine f_getA C dX12_image_139 fl_KilnBenchModel_156 rfl (by decide) (by decide) (by decide) (by decide) ?_
        refine m_iload_n C dX12_image_142 rfl ?_
        obtain ⟨hb, h⟩ := h
        refine f_iald C dX12_image_143 (m_arO (a := 0) (len := 176) rfl rfl) (by decide) hb ?_
        refine f_callVv (As := [vI (μ11 34 48 l1.toNat)]) (st := []) C dX12_image_144 ml_KilnBenchModel_511 rfl (by decide) rfl rfl rfl (Nat.le_of_ble_eq_true rfl) h (fun μ12 h => ?_)
        refine n_iinc (fun x13 => [some (vR 34 0), some (vI x13), none]) C dX12_image_147 rfl (by decide) (fun _ => rfl) (fun x13 ex13 => ?_)
        have h := h x13 ex13
        refine m_goto (tgt := 53) C dX12_image_150 (by decide) ?_
        exact h
    · have h := h.2 c
      refine m_iconst C dX12_image_77 (by unfold in32; omega) ?_
      refine m_goto (tgt := 82) C dX12_image_78 (by decide) ?_
      refine f_callVv (As := [vI 0]) (st := []) C dX12_image_82 ml_KilnBenchModel_511 rfl (by decide) rfl rfl rfl (Nat.le_of_ble_eq_true rfl) h (fun μ14 h => ?_)
      refine m_aload_n C dX12_image_85 rfl ?_
      refine m_aload_n C dX12_image_86 rfl ?_
      refine f_getA C dX12_image_87 fl_KilnBenchModel_147 rfl (by decide) (by decide) (by decide) (by decide) ?_
      refine m_iload_n C dX12_image_90 rfl ?_
      obtain ⟨hb, h⟩ := h
      refine f_iald C dX12_image_91 (m_arO (a := 0) (len := 176) rfl rfl) (by decide) hb ?_
      refine f_callVv (As := [vI (μ14 34 45 l1.toNat)]) (st := []) C dX12_image_92 ml_KilnBenchModel_511 rfl (by decide) rfl rfl rfl (Nat.le_of_ble_eq_true rfl) h (fun μ15 h => ?_)
      refine m_aload_n C dX12_image_95 rfl ?_
      refine m_aload_n C dX12_image_96 rfl ?_
      refine f_getA C dX12_image_97 fl_KilnBenchModel_150 rfl (by decide) (by decide) (by decide) (by decide) ?_
      refine m_iload_n C dX12_image_100 rfl ?_
      obtain ⟨hb, h⟩ := h
      refine f_iald C dX12_image_101 (m_arO (a := 0) (len := 176) rfl rfl) (by decide) hb ?_
      refine f_callVv (As := [vI (μ15 34 46 l1.toNat)]) (st := []) C dX12_image_102 ml_KilnBenchModel_511 rfl (by decide) rfl rfl rfl (Nat.le_of_ble_eq_true rfl) h (fun μ16 h => ?_)
      refine m_aload_n C dX12_image_105 rfl ?_
      refine m_aload_n C dX12_image_106 rfl ?_
      refine f_getA C dX12_image_107 fl_KilnBenchModel_153 rfl (by decide) (by decide) (by decide) (by decide) ?_
      refine m_iload_n C dX12_image_110 rfl ?_
      obtain ⟨hb, h⟩ := h
      refine f_iald C dX12_image_111 (m_arO (a := 0) (len := 176) rfl rfl) (by decide) hb ?_
      refine f_callVv (As := [vI (μ16 34 47 l1.toNat)]) (st := []) C dX12_image_112 ml_KilnBenchModel_511 rfl (by decide) rfl rfl rfl (Nat.le_of_ble_eq_true rfl) h (fun μ17 h => ?_)
      refine m_aload_n C dX12_image_115 rfl ?_
      refine m_aload_n C dX12_image_116 rfl ?_
      refine f_getA C dX12_image_117 fl_KilnBenchModel_159 rfl (by decide) (by decide) (by decide) (by decide) ?_
      refine m_iconst C dX12_image_120 (by unfold in32; omega) ?_
      refine f_iald C dX12_image_121 (m_arO (a := 0) (len := 22) rfl rfl) (by decide) (by decide) ?_
      refine m_iload_n C dX12_image_122 rfl ?_
      refine f_callSi (As := [vI (μ17 34 49 0), vI l1]) (st := [vR 34 0]) C dX12_image_123 ml_KilnBenchModel_458 rfl rfl (Nat.le_of_ble_eq_true rfl) h (fun r19 μ18 h => ?_)
      refine m_if_eq (tgt := 133) C dX12_image_126 (by decide) (fun c => ?_) (fun c => ?_)
      · have h := h.1 c
        refine m_iconst C dX12_image_133 (by unfold in32; omega) ?_
        refine f_callVv (As := [vI 0]) (st := []) C dX12_image_134 ml_KilnBenchModel_511 rfl (by decide) rfl rfl rfl (Nat.le_of_ble_eq_true rfl) h (fun μ20 h => ?_)
        refine m_aload_n C dX12_image_137 rfl ?_
        refine m_aload_n C dX12_image_138 rfl ?_
        refine f_getA C dX12_image_139 fl_KilnBenchModel_156 rfl (by decide) (by decide) (by decide) (by decide) ?_
        refine m_iload_n C dX12_image_142 rfl ?_
        obtain ⟨hb, h⟩ := h
        refine f_iald C dX12_image_143 (m_arO (a := 0) (len := 176) rfl rfl) (by decide) hb ?_
        refine f_callVv (As := [vI (μ20 34 48 l1.toNat)]) (st := []) C dX12_image_144 ml_KilnBenchModel_511 rfl (by decide) rfl rfl rfl (Nat.le_of_ble_eq_true rfl) h (fun μ21 h => ?_)
        refine n_iinc (fun x22 => [some (vR 34 0), some (vI x22), none]) C dX12_image_147 rfl (by decide) (fun _ => rfl) (fun x22 ex22 => ?_)
        have h := h x22 ex22
        refine m_goto (tgt := 53) C dX12_image_150 (by decide) ?_
        exact h
      · have h := h.2 c
        refine m_iconst C dX12_image_129 (by unfold in32; omega) ?_
        refine m_goto (tgt := 134) C dX12_image_130 (by decide) ?_
        refine f_callVv (As := [vI 1]) (st := []) C dX12_image_134 ml_KilnBenchModel_511 rfl (by decide) rfl rfl rfl (Nat.le_of_ble_eq_true rfl) h (fun μ23 h => ?_)
        refine m_aload_n C dX12_image_137 rfl ?_
        refine m_aload_n C dX12_image_138 rfl ?_
        refine f_getA C dX12_image_139 fl_KilnBenchModel_156 rfl (by decide) (by decide) (by decide) (by decide) ?_
        refine m_iload_n C dX12_image_142 rfl ?_
        obtain ⟨hb, h⟩ := h
        refine f_iald C dX12_image_143 (m_arO (a := 0) (len := 176) rfl rfl) (by decide) hb ?_
        refine f_callVv (As := [vI (μ23 34 48 l1.toNat)]) (st := []) C dX12_image_144 ml_KilnBenchModel_511 rfl (by decide) rfl rfl rfl (Nat.le_of_ble_eq_true rfl) h (fun μ24 h => ?_)
        refine n_iinc (fun x25 => [some (vR 34 0), some (vI x25), none]) C dX12_image_147 rfl (by decide) (fun _ => rfl) (fun x25 ex25 => ?_)
        have h := h x25 ex25
        refine m_goto (tgt := 53) C dX12_image_150 (by decide) ?_
        exact h

set_option maxRecDepth 20000 in
theorem VX12_image_155 {G : m_G} {X : m_X} {d : Nat} {K : Int → m_M → Prop} (C : mC G X YX12_image (d + 1)) (R : r_i G X K) {μ : m_M} {l1 : Int}
    (h : (0 ≤ μ 34 0 13 ∧ μ 34 0 13 < 2) ∧ ((μ 34 18 (μ 34 0 13).toNat ≤ l1) → mW G X YX12_image μ 190 [some (vR 34 0), some (vI 241), some (vI 0)] []) ∧ ((¬ μ 34 18 (μ 34 0 13).toNat ≤ l1) → (0 ≤ l1 ∧ l1 < 66) ∧ c_v G d YX12_writes [vR 34 0, vI (μ 34 50 l1.toNat)] μ (fun μ3 => ∀ x4 : Int, x4 = w32 (l1 + 1) → mW G X YX12_image μ3 155 [some (vR 34 0), some (vI x4), none] []))) :
    mW G X YX12_image μ 155 [some (vR 34 0), some (vI l1), none] [] := by
  refine m_iload_n C dX12_image_155 rfl ?_
  refine m_aload_n C dX12_image_156 rfl ?_
  refine f_getA C dX12_image_157 fl_KilnBenchModel_63 rfl (by decide) (by decide) (by decide) (by decide) ?_
  refine m_aload_n C dX12_image_160 rfl ?_
  refine f_getI C dX12_image_161 fl_KilnBenchModel_51 rfl (by decide) (by decide) ?_
  obtain ⟨hb, h⟩ := h
  refine f_iald C dX12_image_164 (m_arO (a := 0) (len := 2) rfl rfl) (by decide) hb ?_
  refine m_icmp_ge (tgt := 184) C dX12_image_165 (by decide) (fun c => ?_) (fun c => ?_)
  · have h := h.1 c
    refine m_sipush C dX12_image_184 (by omega) ?_
    refine o_istore_n [some (vR 34 0), some (vI 241), none] C dX12_image_187 (by decide) rfl ?_
    refine m_iconst C dX12_image_188 (by unfold in32; omega) ?_
    refine o_istore_n [some (vR 34 0), some (vI 241), some (vI 0)] C dX12_image_189 (by decide) rfl ?_
    exact h
  · have h := h.2 c
    refine m_aload_n C dX12_image_168 rfl ?_
    refine m_aload_n C dX12_image_169 rfl ?_
    refine f_getA C dX12_image_170 fl_KilnBenchModel_162 rfl (by decide) (by decide) (by decide) (by decide) ?_
    refine m_iload_n C dX12_image_173 rfl ?_
    obtain ⟨hb, h⟩ := h
    refine f_iald C dX12_image_174 (m_arO (a := 0) (len := 66) rfl rfl) (by decide) hb ?_
    refine f_callVv (As := [vI (μ 34 50 l1.toNat)]) (st := []) C dX12_image_175 ml_KilnBenchModel_511 rfl (by decide) rfl rfl rfl (Nat.le_of_ble_eq_true rfl) h (fun μ3 h => ?_)
    refine n_iinc (fun x4 => [some (vR 34 0), some (vI x4), none]) C dX12_image_178 rfl (by decide) (fun _ => rfl) (fun x4 ex4 => ?_)
    have h := h x4 ex4
    refine m_goto (tgt := 155) C dX12_image_181 (by decide) ?_
    exact h

set_option maxRecDepth 20000 in
theorem VX12_image_190 {G : m_G} {X : m_X} {d : Nat} {K : Int → m_M → Prop} (C : mC G X YX12_image (d + 1)) (R : r_i G X K) {μ : m_M} {l1 : Int} {l2 : Int}
    (h : ((μ 34 0 66 ≤ l2) → c_v G d YX12_writes [vR 34 0, vI l1] μ (fun μ1 => K (μ1 34 0 66) μ1)) ∧ ((¬ μ 34 0 66 ≤ l2) → (0 ≤ l2 ∧ l2 < 60) ∧ ∀ x2 : Int, x2 = (w32 ((w32 (5 * l1)) + (μ 34 66 l2.toNat))).tmod 251 → ∀ x3 : Int, x3 = w32 (l2 + 1) → mW G X YX12_image μ 190 [some (vR 34 0), some (vI x2), some (vI x3)] [])) :
    mW G X YX12_image μ 190 [some (vR 34 0), some (vI l1), some (vI l2)] [] := by
  refine m_iload_n C dX12_image_190 rfl ?_
  refine m_aload_n C dX12_image_191 rfl ?_
  refine f_getI C dX12_image_192 fl_KilnBenchModel_213 rfl (by decide) (by decide) ?_
  refine m_icmp_ge (tgt := 219) C dX12_image_195 (by decide) (fun c => ?_) (fun c => ?_)
  · have h := h.1 c
    refine m_aload_n C dX12_image_219 rfl ?_
    refine m_iload_n C dX12_image_220 rfl ?_
    refine f_callVv (As := [vI l1]) (st := []) C dX12_image_221 ml_KilnBenchModel_511 rfl (by decide) rfl rfl rfl (Nat.le_of_ble_eq_true rfl) h (fun μ1 h => ?_)
    refine m_aload_n C dX12_image_224 rfl ?_
    refine f_getI C dX12_image_225 fl_KilnBenchModel_213 rfl (by decide) (by decide) ?_
    exact f_iret C R rfl dX12_image_228 h
  · have h := h.2 c
    refine m_iconst C dX12_image_198 (by unfold in32; omega) ?_
    refine m_iload_n C dX12_image_199 rfl ?_
    refine m_imul C dX12_image_200 ?_
    refine m_aload_n C dX12_image_201 rfl ?_
    refine f_getA C dX12_image_202 fl_KilnBenchModel_210 rfl (by decide) (by decide) (by decide) (by decide) ?_
    refine m_iload_n C dX12_image_205 rfl ?_
    obtain ⟨hb, h⟩ := h
    refine f_iald C dX12_image_206 (m_arO (a := 0) (len := 60) rfl rfl) (by decide) hb ?_
    refine m_iadd C dX12_image_207 ?_
    refine m_sipush C dX12_image_208 (by omega) ?_
    refine m_irem C dX12_image_211 (by decide) ?_
    refine n_istore_n (fun x2 => [some (vR 34 0), some (vI x2), some (vI l2)]) C dX12_image_212 (by decide) (fun _ => rfl) (fun x2 ex2 => ?_)
    have h := h x2 ex2
    refine n_iinc (fun x3 => [some (vR 34 0), some (vI x2), some (vI x3)]) C dX12_image_213 rfl (by decide) (fun _ => rfl) (fun x3 ex3 => ?_)
    have h := h x3 ex3
    refine m_goto (tgt := 190) C dX12_image_216 (by decide) ?_
    exact h

set_option maxRecDepth 20000 in
theorem VX12_octet_0 {G : m_G} {X : m_X} {d : Nat} {K : Int → m_M → Prop} (C : mC G X YX12_octet (d + 1)) (R : r_i G X K) {μ : m_M} {a1 : Int}
    (h : c_i G d YX12_is [vI a1, vI 0, vI (w32 ((μ 34 0 66) - 1))] μ (fun r2 μ1 => ((r2 = 0) → K (-1) μ1) ∧ ((¬ r2 = 0) → (0 ≤ a1 ∧ a1 < 60) ∧ K (μ1 34 66 a1.toNat) μ1))) :
    mW G X YX12_octet μ 0 [some (vR 34 0), some (vI a1)] [] := by
  refine m_iload_n C dX12_octet_0 rfl ?_
  refine m_iconst C dX12_octet_1 (by unfold in32; omega) ?_
  refine m_aload_n C dX12_octet_2 rfl ?_
  refine f_getI C dX12_octet_3 fl_KilnBenchModel_213 rfl (by decide) (by decide) ?_
  refine m_iconst C dX12_octet_6 (by unfold in32; omega) ?_
  refine m_isub C dX12_octet_7 ?_
  refine f_callSi (As := [vI a1, vI 0, vI (w32 ((μ 34 0 66) - 1))]) (st := []) C dX12_octet_8 ml_KilnBenchModel_296 rfl rfl (Nat.le_of_ble_eq_true rfl) h (fun r2 μ1 h => ?_)
  refine m_if_eq (tgt := 23) C dX12_octet_11 (by decide) (fun c => ?_) (fun c => ?_)
  · have h := h.1 c
    refine m_iconst C dX12_octet_23 (by unfold in32; omega) ?_
    exact f_iret C R rfl dX12_octet_24 h
  · have h := h.2 c
    refine m_aload_n C dX12_octet_14 rfl ?_
    refine f_getA C dX12_octet_15 fl_KilnBenchModel_210 rfl (by decide) (by decide) (by decide) (by decide) ?_
    refine m_iload_n C dX12_octet_18 rfl ?_
    obtain ⟨hb, h⟩ := h
    refine f_iald C dX12_octet_19 (m_arO (a := 0) (len := 60) rfl rfl) (by decide) hb ?_
    refine m_goto (tgt := 24) C dX12_octet_20 (by decide) ?_
    exact f_iret C R rfl dX12_octet_24 h

set_option maxRecDepth 20000 in
theorem VX12_orNone_0 {G : m_G} {X : m_X} {d : Nat} {K : Int → m_M → Prop} (C : mC G X YX12_orNone (d + 1)) (R : r_i G X K) {μ : m_M} {a1 : Int}
    (h : ((¬ a1 = 255) → K a1 μ) ∧ ((a1 = 255) → K (-1) μ)) :
    mW G X YX12_orNone μ 0 [some (vI a1)] [] := by
  refine m_iload_n C dX12_orNone_0 rfl ?_
  refine m_sipush C dX12_orNone_1 (by omega) ?_
  refine m_icmp_ne (tgt := 11) C dX12_orNone_4 (by decide) (fun c => ?_) (fun c => ?_)
  · have h := h.1 c
    refine m_iload_n C dX12_orNone_11 rfl ?_
    exact f_iret C R rfl dX12_orNone_12 h
  · have h := h.2 c
    refine m_iconst C dX12_orNone_7 (by unfold in32; omega) ?_
    refine m_goto (tgt := 12) C dX12_orNone_8 (by decide) ?_
    exact f_iret C R rfl dX12_orNone_12 h

set_option maxRecDepth 20000 in
theorem VX12_childOn_0 {G : m_G} {X : m_X} {d : Nat} {K : Int → m_M → Prop} (C : mC G X YX12_childOn (d + 1)) (R : r_i G X K) {μ : m_M} {a1 : Int} {a2 : Int}
    (h : ∀ x1 : Int, x1 = w32 (8 + a1) → (0 ≤ a2 ∧ a2 < 1800) ∧ ((¬ (μ 34 1 a2.toNat) = 1) → (0 ≤ w32 (a2 + 1) ∧ w32 (a2 + 1) < 1800) ∧ c_i G d YX12_orNone [vI (μ 34 1 (w32 (a2 + 1)).toNat)] μ (fun r4 μ3 => (0 ≤ x1 ∧ x1 < 176) ∧ ∀ μ5 : m_M, μ5 = m_up μ3 34 45 x1.toNat r4 → (0 ≤ w32 (a2 + 2) ∧ w32 (a2 + 2) < 1800) ∧ c_i G d YX12_orNone [vI (μ5 34 1 (w32 (a2 + 2)).toNat)] μ5 (fun r7 μ6 => (0 ≤ x1 ∧ x1 < 176) ∧ ∀ μ8 : m_M, μ8 = m_up μ6 34 46 x1.toNat r7 → (0 ≤ w32 (a2 + 3) ∧ w32 (a2 + 3) < 1800) ∧ c_i G d YX12_orNone [vI (μ8 34 1 (w32 (a2 + 3)).toNat)] μ8 (fun r10 μ9 => (0 ≤ x1 ∧ x1 < 176) ∧ ∀ μ11 : m_M, μ11 = m_up μ9 34 47 x1.toNat r10 → (0 ≤ w32 (a2 + 5) ∧ w32 (a2 + 5) < 1800) ∧ (0 ≤ x1 ∧ x1 < 176) ∧ ∀ μ12 : m_M, μ12 = m_up μ11 34 48 x1.toNat (μ11 34 1 (w32 (a2 + 5)).toNat) → (0 ≤ w32 (a2 + 4) ∧ w32 (a2 + 4) < 1800) ∧ ((¬ (μ12 34 1 (w32 (a2 + 4)).toNat) = 1) → ∀ μ13 : m_M, μ13 = m_up μ12 34 49 1 (i_or (μ12 34 49 1) 0) → (0 ≤ a2 ∧ a2 < 1800) ∧ ((1 < μ13 34 1 a2.toNat) → K 0 μ13) ∧ ((¬ 1 < μ13 34 1 a2.toNat) → (0 ≤ w32 (a2 + 4) ∧ w32 (a2 + 4) < 1800) ∧ ((1 < μ13 34 1 (w32 (a2 + 4)).toNat) → K 0 μ13) ∧ ((¬ 1 < μ13 34 1 (w32 (a2 + 4)).toNat) → (0 ≤ x1 ∧ x1 < 176) ∧ ((¬ (μ13 34 45 x1.toNat) = (-1)) → (0 ≤ x1 ∧ x1 < 176) ∧ ((¬ (μ13 34 46 x1.toNat) = (-1)) → (0 ≤ x1 ∧ x1 < 176) ∧ ((¬ (μ13 34 47 x1.toNat) = (-1)) → K 0 μ13) ∧ ((μ13 34 47 x1.toNat = (-1)) → (0 ≤ w32 (a2 + 4) ∧ w32 (a2 + 4) < 1800) ∧ ((μ13 34 1 (w32 (a2 + 4)).toNat = 1) → K 0 μ13) ∧ ((¬ μ13 34 1 (w32 (a2 + 4)).toNat = 1) → (0 ≤ x1 ∧ x1 < 176) ∧ ((μ13 34 48 x1.toNat = 0) → (0 ≤ x1 ∧ x1 < 176) ∧ ((μ13 34 45 x1.toNat = (-1)) → mW G X YX12_childOn μ13 275 [some (vR 34 0), some (vI a1), some (vI a2), some (vI x1), some (vI 0), some (vI 0)] []) ∧ ((¬ μ13 34 45 x1.toNat = (-1)) → (0 ≤ x1 ∧ x1 < 176) ∧ (0 ≤ x1 ∧ x1 < 176) ∧ c_i G d YX12_isPlaceOf [vR 34 0, vI (μ13 34 45 x1.toNat), vI (μ13 34 46 x1.toNat)] μ13 (fun r16 μ15 => ((¬ r16 = 0) → mW G X YX12_childOn μ15 275 [some (vR 34 0), some (vI a1), some (vI a2), some (vI x1), some (vI 0), some (vI 0)] []) ∧ ((r16 = 0) → K 0 μ15)))) ∧ ((¬ μ13 34 48 x1.toNat = 0) → K 0 μ13)))) ∧ ((μ13 34 46 x1.toNat = (-1)) → K 0 μ13)) ∧ ((μ13 34 45 x1.toNat = (-1)) → (0 ≤ x1 ∧ x1 < 176) ∧ ((¬ (μ13 34 46 x1.toNat) = (-1)) → K 0 μ13) ∧ ((μ13 34 46 x1.toNat = (-1)) → (0 ≤ x1 ∧ x1 < 176) ∧ ((¬ (μ13 34 47 x1.toNat) = (-1)) → K 0 μ13) ∧ ((μ13 34 47 x1.toNat = (-1)) → (0 ≤ w32 (a2 + 4) ∧ w32 (a2 + 4) < 1800) ∧ ((μ13 34 1 (w32 (a2 + 4)).toNat = 1) → K 0 μ13) ∧ ((¬ μ13 34 1 (w32 (a2 + 4)).toNat = 1) → (0 ≤ x1 ∧ x1 < 176) ∧ ((μ13 34 48 x1.toNat = 0) → (0 ≤ x1 ∧ x1 < 176) ∧ ((μ13 34 45 x1.toNat = (-1)) → mW G X YX12_childOn μ13 275 [some (vR 34 0), some (vI a1), some (vI a2), some (vI x1), some (vI 0), some (vI 0)] []) ∧ ((¬ μ13 34 45 x1.toNat = (-1)) → (0 ≤ x1 ∧ x1 < 176) ∧ (0 ≤ x1 ∧ x1 < 176) ∧ c_i G d YX12_isPlaceOf [vR 34 0, vI (μ13 34 45 x1.toNat), vI (μ13 34 46 x1.toNat)] μ13 (fun r20 μ19 => ((¬ r20 = 0) → mW G X YX12_childOn μ19 275 [some (vR 34 0), some (vI a1), some (vI a2), some (vI x1), some (vI 0), some (vI 0)] []) ∧ ((r20 = 0) → K 0 μ19)))) ∧ ((¬ μ13 34 48 x1.toNat = 0) → K 0 μ13)))))))) ∧ ((μ12 34 1 (w32 (a2 + 4)).toNat = 1) → ∀ μ22 : m_M, μ22 = m_up μ12 34 49 1 (i_or (μ12 34 49 1) (i_shl 1 a1)) → (0 ≤ a2 ∧ a2 < 1800) ∧ ((1 < μ22 34 1 a2.toNat) → K 0 μ22) ∧ ((¬ 1 < μ22 34 1 a2.toNat) → (0 ≤ w32 (a2 + 4) ∧ w32 (a2 + 4) < 1800) ∧ ((1 < μ22 34 1 (w32 (a2 + 4)).toNat) → K 0 μ22) ∧ ((¬ 1 < μ22 34 1 (w32 (a2 + 4)).toNat) → (0 ≤ x1 ∧ x1 < 176) ∧ ((¬ (μ22 34 45 x1.toNat) = (-1)) → (0 ≤ x1 ∧ x1 < 176) ∧ ((¬ (μ22 34 46 x1.toNat) = (-1)) → (0 ≤ x1 ∧ x1 < 176) ∧ ((¬ (μ22 34 47 x1.toNat) = (-1)) → K 0 μ22) ∧ ((μ22 34 47 x1.toNat = (-1)) → (0 ≤ w32 (a2 + 4) ∧ w32 (a2 + 4) < 1800) ∧ ((μ22 34 1 (w32 (a2 + 4)).toNat = 1) → K 0 μ22) ∧ ((¬ μ22 34 1 (w32 (a2 + 4)).toNat = 1) → (0 ≤ x1 ∧ x1 < 176) ∧ ((μ22 34 48 x1.toNat = 0) → (0 ≤ x1 ∧ x1 < 176) ∧ ((μ22 34 45 x1.toNat = (-1)) → mW G X YX12_childOn μ22 275 [some (vR 34 0), some (vI a1), some (vI a2), some (vI x1), some (vI 0), some (vI 0)] []) ∧ ((¬ μ22 34 45 x1.toNat = (-1)) → (0 ≤ x1 ∧ x1 < 176) ∧ (0 ≤ x1 ∧ x1 < 176) ∧ c_i G d YX12_isPlaceOf [vR 34 0, vI (μ22 34 45 x1.toNat), vI (μ22 34 46 x1.toNat)] μ22 (fun r25 μ24 => ((¬ r25 = 0) → mW G X YX12_childOn μ24 275 [some (vR 34 0), some (vI a1), some (vI a2), some (vI x1), some (vI 0), some (vI 0)] []) ∧ ((r25 = 0) → K 0 μ24)))) ∧ ((¬ μ22 34 48 x1.toNat = 0) → K 0 μ22)))) ∧ ((μ22 34 46 x1.toNat = (-1)) → K 0 μ22)) ∧ ((μ22 34 45 x1.toNat = (-1)) → (0 ≤ x1 ∧ x1 < 176) ∧ ((¬ (μ22 34 46 x1.toNat) = (-1)) → K 0 μ22) ∧ ((μ22 34 46 x1.toNat = (-1)) → (0 ≤ x1 ∧ x1 < 176) ∧ ((¬ (μ22 34 47 x1.toNat) = (-1)) → K 0 μ22) ∧ ((μ22 34 47 x1.toNat = (-1)) → (0 ≤ w32 (a2 + 4) ∧ w32 (a2 + 4) < 1800) ∧ ((μ22 34 1 (w32 (a2 + 4)).toNat = 1) → K 0 μ22) ∧ ((¬ μ22 34 1 (w32 (a2 + 4)).toNat = 1) → (0 ≤ x1 ∧ x1 < 176) ∧ ((μ22 34 48 x1.toNat = 0) → (0 ≤ x1 ∧ x1 < 176) ∧ ((μ22 34 45 x1.toNat = (-1)) → mW G X YX12_childOn μ22 275 [some (vR 34 0), some (vI a1), some (vI a2), some (vI x1), some (vI 0), some (vI 0)] []) ∧ ((¬ μ22 34 45 x1.toNat = (-1)) → (0 ≤ x1 ∧ x1 < 176) ∧ (0 ≤ x1 ∧ x1 < 176) ∧ c_i G d YX12_isPlaceOf [vR 34 0, vI (μ22 34 45 x1.toNat), vI (μ22 34 46 x1.toNat)] μ22 (fun r29 μ28 => ((¬ r29 = 0) → mW G X YX12_childOn μ28 275 [some (vR 34 0), some (vI a1), some (vI a2), some (vI x1), some (vI 0), some (vI 0)] []) ∧ ((r29 = 0) → K 0 μ28)))) ∧ ((¬ μ22 34 48 x1.toNat = 0) → K 0 μ22)))))))))))) ∧ ((μ 34 1 a2.toNat = 1) → (0 ≤ w32 (a2 + 1) ∧ w32 (a2 + 1) < 1800) ∧ c_i G d YX12_orNone [vI (μ 34 1 (w32 (a2 + 1)).toNat)] μ (fun r33 μ32 => (0 ≤ x1 ∧ x1 < 176) ∧ ∀ μ34 : m_M, μ34 = m_up μ32 34 45 x1.toNat r33 → (0 ≤ w32 (a2 + 2) ∧ w32 (a2 + 2) < 1800) ∧ c_i G d YX12_orNone [vI (μ34 34 1 (w32 (a2 + 2)).toNat)] μ34 (fun r36 μ35 => (0 ≤ x1 ∧ x1 < 176) ∧ ∀ μ37 : m_M, μ37 = m_up μ35 34 46 x1.toNat r36 → (0 ≤ w32 (a2 + 3) ∧ w32 (a2 + 3) < 1800) ∧ c_i G d YX12_orNone [vI (μ37 34 1 (w32 (a2 + 3)).toNat)] μ37 (fun r39 μ38 => (0 ≤ x1 ∧ x1 < 176) ∧ ∀ μ40 : m_M, μ40 = m_up μ38 34 47 x1.toNat r39 → (0 ≤ w32 (a2 + 5) ∧ w32 (a2 + 5) < 1800) ∧ (0 ≤ x1 ∧ x1 < 176) ∧ ∀ μ41 : m_M, μ41 = m_up μ40 34 48 x1.toNat (μ40 34 1 (w32 (a2 + 5)).toNat) → (0 ≤ w32 (a2 + 4) ∧ w32 (a2 + 4) < 1800) ∧ ((¬ (μ41 34 1 (w32 (a2 + 4)).toNat) = 1) → ∀ μ42 : m_M, μ42 = m_up μ41 34 49 1 (i_or (μ41 34 49 1) 0) → (0 ≤ a2 ∧ a2 < 1800) ∧ ((1 < μ42 34 1 a2.toNat) → K 0 μ42) ∧ ((¬ 1 < μ42 34 1 a2.toNat) → (0 ≤ w32 (a2 + 4) ∧ w32 (a2 + 4) < 1800) ∧ ((1 < μ42 34 1 (w32 (a2 + 4)).toNat) → K 0 μ42) ∧ ((¬ 1 < μ42 34 1 (w32 (a2 + 4)).toNat) → (0 ≤ x1 ∧ x1 < 176) ∧ ((¬ (μ42 34 45 x1.toNat) = (-1)) → (0 ≤ x1 ∧ x1 < 176) ∧ ((¬ (μ42 34 46 x1.toNat) = (-1)) → (0 ≤ x1 ∧ x1 < 176) ∧ ((¬ (μ42 34 45 x1.toNat) = (-1)) → K 0 μ42) ∧ ((μ42 34 45 x1.toNat = (-1)) → (0 ≤ x1 ∧ x1 < 176) ∧ c_i G d YX12_is [vI (μ42 34 47 x1.toNat), vI 0, vI 99] μ42 (fun r44 μ43 => ((r44 = 0) → K 0 μ43) ∧ ((¬ r44 = 0) → K 1 μ43)))) ∧ ((μ42 34 46 x1.toNat = (-1)) → K 0 μ42)) ∧ ((μ42 34 45 x1.toNat = (-1)) → (0 ≤ x1 ∧ x1 < 176) ∧ ((¬ (μ42 34 46 x1.toNat) = (-1)) → K 0 μ42) ∧ ((μ42 34 46 x1.toNat = (-1)) → (0 ≤ x1 ∧ x1 < 176) ∧ ((¬ (μ42 34 45 x1.toNat) = (-1)) → K 0 μ42) ∧ ((μ42 34 45 x1.toNat = (-1)) → (0 ≤ x1 ∧ x1 < 176) ∧ c_i G d YX12_is [vI (μ42 34 47 x1.toNat), vI 0, vI 99] μ42 (fun r46 μ45 => ((r46 = 0) → K 0 μ45) ∧ ((¬ r46 = 0) → K 1 μ45)))))))) ∧ ((μ41 34 1 (w32 (a2 + 4)).toNat = 1) → ∀ μ47 : m_M, μ47 = m_up μ41 34 49 1 (i_or (μ41 34 49 1) (i_shl 1 a1)) → (0 ≤ a2 ∧ a2 < 1800) ∧ ((1 < μ47 34 1 a2.toNat) → K 0 μ47) ∧ ((¬ 1 < μ47 34 1 a2.toNat) → (0 ≤ w32 (a2 + 4) ∧ w32 (a2 + 4) < 1800) ∧ ((1 < μ47 34 1 (w32 (a2 + 4)).toNat) → K 0 μ47) ∧ ((¬ 1 < μ47 34 1 (w32 (a2 + 4)).toNat) → (0 ≤ x1 ∧ x1 < 176) ∧ ((¬ (μ47 34 45 x1.toNat) = (-1)) → (0 ≤ x1 ∧ x1 < 176) ∧ ((¬ (μ47 34 46 x1.toNat) = (-1)) → (0 ≤ x1 ∧ x1 < 176) ∧ ((¬ (μ47 34 45 x1.toNat) = (-1)) → K 0 μ47) ∧ ((μ47 34 45 x1.toNat = (-1)) → (0 ≤ x1 ∧ x1 < 176) ∧ c_i G d YX12_is [vI (μ47 34 47 x1.toNat), vI 0, vI 99] μ47 (fun r49 μ48 => ((r49 = 0) → K 0 μ48) ∧ ((¬ r49 = 0) → K 1 μ48)))) ∧ ((μ47 34 46 x1.toNat = (-1)) → K 0 μ47)) ∧ ((μ47 34 45 x1.toNat = (-1)) → (0 ≤ x1 ∧ x1 < 176) ∧ ((¬ (μ47 34 46 x1.toNat) = (-1)) → K 0 μ47) ∧ ((μ47 34 46 x1.toNat = (-1)) → (0 ≤ x1 ∧ x1 < 176) ∧ ((¬ (μ47 34 45 x1.toNat) = (-1)) → K 0 μ47) ∧ ((μ47 34 45 x1.toNat = (-1)) → (0 ≤ x1 ∧ x1 < 176) ∧ c_i G d YX12_is [vI (μ47 34 47 x1.toNat), vI 0, vI 99] μ47 (fun r51 μ50 => ((r51 = 0) → K 0 μ50) ∧ ((¬ r51 = 0) → K 1 μ50))))))))))))) :
    mW G X YX12_childOn μ 0 [some (vR 34 0), some (vI a1), some (vI a2), none, none, none] [] := by
  refine m_bipush C dX12_childOn_0 (by omega) ?_
  refine m_iload_n C dX12_childOn_2 rfl ?_
  refine m_iadd C dX12_childOn_3 ?_
  refine n_istore_n (fun x1 => [some (vR 34 0), some (vI a1), some (vI a2), some (vI x1), none, none]) C dX12_childOn_4 (by decide) (fun _ => rfl) (fun x1 ex1 => ?_)
  have h := h x1 ex1
  refine m_aload_n C dX12_childOn_5 rfl ?_
  refine f_getA C dX12_childOn_6 fl_KilnBenchModel_7 rfl (by decide) (by decide) (by decide) (by decide) ?_
  refine m_iload_n C dX12_childOn_9 rfl ?_
  obtain ⟨hb, h⟩ := h
  refine f_iald C dX12_childOn_10 (m_arO (a := 0) (len := 1800) rfl rfl) (by decide) hb ?_
  refine m_iconst C dX12_childOn_11 (by unfold in32; omega) ?_
  refine m_icmp_ne (tgt := 19) C dX12_childOn_12 (by decide) (fun c => ?_) (fun c => ?_)
  · have h := h.1 c
    refine m_iconst C dX12_childOn_19 (by unfold in32; omega) ?_
    refine o_istore [some (vR 34 0), some (vI a1), some (vI a2), some (vI x1), some (vI 0), none] C dX12_childOn_20 (by decide) rfl ?_
    refine m_aload_n C dX12_childOn_22 rfl ?_
    refine f_getA C dX12_childOn_23 fl_KilnBenchModel_147 rfl (by decide) (by decide) (by decide) (by decide) ?_
    refine m_iload_n C dX12_childOn_26 rfl ?_
    refine m_aload_n C dX12_childOn_27 rfl ?_
    refine f_getA C dX12_childOn_28 fl_KilnBenchModel_7 rfl (by decide) (by decide) (by decide) (by decide) ?_
    refine m_iload_n C dX12_childOn_31 rfl ?_
    refine m_iconst C dX12_childOn_32 (by unfold in32; omega) ?_
    refine m_iadd C dX12_childOn_33 ?_
    obtain ⟨hb, h⟩ := h
    refine f_iald C dX12_childOn_34 (m_arO (a := 0) (len := 1800) rfl rfl) (by decide) hb ?_
    refine f_callSi (As := [vI (μ 34 1 (w32 (a2 + 1)).toNat)]) (st := [vI x1, vR 34 45]) C dX12_childOn_35 ml_KilnBenchModel_514 rfl rfl (Nat.le_of_ble_eq_true rfl) h (fun r4 μ3 h => ?_)
    obtain ⟨hb, h⟩ := h
    refine f_iast C dX12_childOn_38 (m_arO (a := 0) (len := 176) rfl rfl) (by decide) hb ?_
    refine n_mem (fun μ5 eμ5 => ?_)
    have h := h μ5 eμ5
    refine m_aload_n C dX12_childOn_39 rfl ?_
    refine f_getA C dX12_childOn_40 fl_KilnBenchModel_150 rfl (by decide) (by decide) (by decide) (by decide) ?_
    refine m_iload_n C dX12_childOn_43 rfl ?_
    refine m_aload_n C dX12_childOn_44 rfl ?_
    refine f_getA C dX12_childOn_45 fl_KilnBenchModel_7 rfl (by decide) (by decide) (by decide) (by decide) ?_
    refine m_iload_n C dX12_childOn_48 rfl ?_
    refine m_iconst C dX12_childOn_49 (by unfold in32; omega) ?_
    refine m_iadd C dX12_childOn_50 ?_
    obtain ⟨hb, h⟩ := h
    refine f_iald C dX12_childOn_51 (m_arO (a := 0) (len := 1800) rfl rfl) (by decide) hb ?_
    refine f_callSi (As := [vI (μ5 34 1 (w32 (a2 + 2)).toNat)]) (st := [vI x1, vR 34 46]) C dX12_childOn_52 ml_KilnBenchModel_514 rfl rfl (Nat.le_of_ble_eq_true rfl) h (fun r7 μ6 h => ?_)
    obtain ⟨hb, h⟩ := h
    refine f_iast C dX12_childOn_55 (m_arO (a := 0) (len := 176) rfl rfl) (by decide) hb ?_
    refine n_mem (fun μ8 eμ8 => ?_)
    have h := h μ8 eμ8
    refine m_aload_n C dX12_childOn_56 rfl ?_
    refine f_getA C dX12_childOn_57 fl_KilnBenchModel_153 rfl (by decide) (by decide) (by decide) (by decide) ?_
    refine m_iload_n C dX12_childOn_60 rfl ?_
    refine m_aload_n C dX12_childOn_61 rfl ?_
    refine f_getA C dX12_childOn_62 fl_KilnBenchModel_7 rfl (by decide) (by decide) (by decide) (by decide) ?_
    refine m_iload_n C dX12_childOn_65 rfl ?_
    refine m_iconst C dX12_childOn_66 (by unfold in32; omega) ?_
    refine m_iadd C dX12_childOn_67 ?_
    obtain ⟨hb, h⟩ := h
    refine f_iald C dX12_childOn_68 (m_arO (a := 0) (len := 1800) rfl rfl) (by decide) hb ?_
    refine f_callSi (As := [vI (μ8 34 1 (w32 (a2 + 3)).toNat)]) (st := [vI x1, vR 34 47]) C dX12_childOn_69 ml_KilnBenchModel_514 rfl rfl (Nat.le_of_ble_eq_true rfl) h (fun r10 μ9 h => ?_)
    obtain ⟨hb, h⟩ := h
    refine f_iast C dX12_childOn_72 (m_arO (a := 0) (len := 176) rfl rfl) (by decide) hb ?_
    refine n_mem (fun μ11 eμ11 => ?_)
    have h := h μ11 eμ11
    refine m_aload_n C dX12_childOn_73 rfl ?_
    refine f_getA C dX12_childOn_74 fl_KilnBenchModel_156 rfl (by decide) (by decide) (by decide) (by decide) ?_
    refine m_iload_n C dX12_childOn_77 rfl ?_
    refine m_aload_n C dX12_childOn_78 rfl ?_
    refine f_getA C dX12_childOn_79 fl_KilnBenchModel_7 rfl (by decide) (by decide) (by decide) (by decide) ?_
    refine m_iload_n C dX12_childOn_82 rfl ?_
    refine m_iconst C dX12_childOn_83 (by unfold in32; omega) ?_
    refine m_iadd C dX12_childOn_84 ?_
    obtain ⟨hb, h⟩ := h
    refine f_iald C dX12_childOn_85 (m_arO (a := 0) (len := 1800) rfl rfl) (by decide) hb ?_
    obtain ⟨hb, h⟩ := h
    refine f_iast C dX12_childOn_86 (m_arO (a := 0) (len := 176) rfl rfl) (by decide) hb ?_
    refine n_mem (fun μ12 eμ12 => ?_)
    have h := h μ12 eμ12
    refine m_aload_n C dX12_childOn_87 rfl ?_
    refine f_getA C dX12_childOn_88 fl_KilnBenchModel_159 rfl (by decide) (by decide) (by decide) (by decide) ?_
    refine m_iconst C dX12_childOn_91 (by unfold in32; omega) ?_
    refine m_dup2 C dX12_childOn_92 rfl rfl ?_
    refine f_iald C dX12_childOn_93 (m_arO (a := 0) (len := 22) rfl rfl) (by decide) (by decide) ?_
    refine m_aload_n C dX12_childOn_94 rfl ?_
    refine f_getA C dX12_childOn_95 fl_KilnBenchModel_7 rfl (by decide) (by decide) (by decide) (by decide) ?_
    refine m_iload_n C dX12_childOn_98 rfl ?_
    refine m_iconst C dX12_childOn_99 (by unfold in32; omega) ?_
    refine m_iadd C dX12_childOn_100 ?_
    obtain ⟨hb, h⟩ := h
    refine f_iald C dX12_childOn_101 (m_arO (a := 0) (len := 1800) rfl rfl) (by decide) hb ?_
    refine m_iconst C dX12_childOn_102 (by unfold in32; omega) ?_
    refine m_icmp_ne (tgt := 112) C dX12_childOn_103 (by decide) (fun c => ?_) (fun c => ?_)
    · have h := h.1 c
      refine m_iconst C dX12_childOn_112 (by unfold in32; omega) ?_
      refine m_ior C dX12_childOn_113 ?_
      refine f_iast C dX12_childOn_114 (m_arO (a := 0) (len := 22) rfl rfl) (by decide) (by decide) ?_
      refine n_mem (fun μ13 eμ13 => ?_)
      have h := h μ13 eμ13
      refine m_aload_n C dX12_childOn_115 rfl ?_
      refine f_getA C dX12_childOn_116 fl_KilnBenchModel_7 rfl (by decide) (by decide) (by decide) (by decide) ?_
      refine m_iload_n C dX12_childOn_119 rfl ?_
      obtain ⟨hb, h⟩ := h
      refine f_iald C dX12_childOn_120 (m_arO (a := 0) (len := 1800) rfl rfl) (by decide) hb ?_
      refine m_iconst C dX12_childOn_121 (by unfold in32; omega) ?_
      refine m_icmp_gt (tgt := 170) C dX12_childOn_122 (by decide) (fun c => ?_) (fun c => ?_)
      · have h := h.1 c
        refine m_iconst C dX12_childOn_170 (by unfold in32; omega) ?_
        exact f_zret C R rfl dX12_childOn_171 (by decide) h
      · have h := h.2 c
        refine m_aload_n C dX12_childOn_125 rfl ?_
        refine f_getA C dX12_childOn_126 fl_KilnBenchModel_7 rfl (by decide) (by decide) (by decide) (by decide) ?_
        refine m_iload_n C dX12_childOn_129 rfl ?_
        refine m_iconst C dX12_childOn_130 (by unfold in32; omega) ?_
        refine m_iadd C dX12_childOn_131 ?_
        obtain ⟨hb, h⟩ := h
        refine f_iald C dX12_childOn_132 (m_arO (a := 0) (len := 1800) rfl rfl) (by decide) hb ?_
        refine m_iconst C dX12_childOn_133 (by unfold in32; omega) ?_
        refine m_icmp_gt (tgt := 170) C dX12_childOn_134 (by decide) (fun c => ?_) (fun c => ?_)
        · have h := h.1 c
          refine m_iconst C dX12_childOn_170 (by unfold in32; omega) ?_
          exact f_zret C R rfl dX12_childOn_171 (by decide) h
        · have h := h.2 c
          refine m_aload_n C dX12_childOn_137 rfl ?_
          refine f_getA C dX12_childOn_138 fl_KilnBenchModel_147 rfl (by decide) (by decide) (by decide) (by decide) ?_
          refine m_iload_n C dX12_childOn_141 rfl ?_
          obtain ⟨hb, h⟩ := h
          refine f_iald C dX12_childOn_142 (m_arO (a := 0) (len := 176) rfl rfl) (by decide) hb ?_
          refine m_iconst C dX12_childOn_143 (by unfold in32; omega) ?_
          refine m_icmp_ne (tgt := 151) C dX12_childOn_144 (by decide) (fun c => ?_) (fun c => ?_)
          · have h := h.1 c
            refine m_iconst C dX12_childOn_151 (by unfold in32; omega) ?_
            refine m_aload_n C dX12_childOn_152 rfl ?_
            refine f_getA C dX12_childOn_153 fl_KilnBenchModel_150 rfl (by decide) (by decide) (by decide) (by decide) ?_
            refine m_iload_n C dX12_childOn_156 rfl ?_
            obtain ⟨hb, h⟩ := h
            refine f_iald C dX12_childOn_157 (m_arO (a := 0) (len := 176) rfl rfl) (by decide) hb ?_
            refine m_iconst C dX12_childOn_158 (by unfold in32; omega) ?_
            refine m_icmp_ne (tgt := 166) C dX12_childOn_159 (by decide) (fun c => ?_) (fun c => ?_)
            · have h := h.1 c
              refine m_iconst C dX12_childOn_166 (by unfold in32; omega) ?_
              refine m_icmp_eq (tgt := 172) C dX12_childOn_167 (by decide) (fun c => ?_) (fun c => absurd c (by decide))
              refine m_iload C dX12_childOn_172 rfl ?_
              refine m_if_eq (tgt := 208) C dX12_childOn_174 (by decide) (fun c => ?_) (fun c => absurd c (by decide))
              refine m_aload_n C dX12_childOn_208 rfl ?_
              refine f_getA C dX12_childOn_209 fl_KilnBenchModel_153 rfl (by decide) (by decide) (by decide) (by decide) ?_
              refine m_iload_n C dX12_childOn_212 rfl ?_
              obtain ⟨hb, h⟩ := h
              refine f_iald C dX12_childOn_213 (m_arO (a := 0) (len := 176) rfl rfl) (by decide) hb ?_
              refine m_iconst C dX12_childOn_214 (by unfold in32; omega) ?_
              refine m_icmp_ne (tgt := 239) C dX12_childOn_215 (by decide) (fun c => ?_) (fun c => ?_)
              · have h := h.1 c
                refine m_iconst C dX12_childOn_239 (by unfold in32; omega) ?_
                exact f_zret C R rfl dX12_childOn_240 (by decide) h
              · have h := h.2 c
                refine m_aload_n C dX12_childOn_218 rfl ?_
                refine f_getA C dX12_childOn_219 fl_KilnBenchModel_7 rfl (by decide) (by decide) (by decide) (by decide) ?_
                refine m_iload_n C dX12_childOn_222 rfl ?_
                refine m_iconst C dX12_childOn_223 (by unfold in32; omega) ?_
                refine m_iadd C dX12_childOn_224 ?_
                obtain ⟨hb, h⟩ := h
                refine f_iald C dX12_childOn_225 (m_arO (a := 0) (len := 1800) rfl rfl) (by decide) hb ?_
                refine m_iconst C dX12_childOn_226 (by unfold in32; omega) ?_
                refine m_icmp_eq (tgt := 239) C dX12_childOn_227 (by decide) (fun c => ?_) (fun c => ?_)
                · have h := h.1 c
                  refine m_iconst C dX12_childOn_239 (by unfold in32; omega) ?_
                  exact f_zret C R rfl dX12_childOn_240 (by decide) h
                · have h := h.2 c
                  refine m_aload_n C dX12_childOn_230 rfl ?_
                  refine f_getA C dX12_childOn_231 fl_KilnBenchModel_156 rfl (by decide) (by decide) (by decide) (by decide) ?_
                  refine m_iload_n C dX12_childOn_234 rfl ?_
                  obtain ⟨hb, h⟩ := h
                  refine f_iald C dX12_childOn_235 (m_arO (a := 0) (len := 176) rfl rfl) (by decide) hb ?_
                  refine m_if_eq (tgt := 241) C dX12_childOn_236 (by decide) (fun c => ?_) (fun c => ?_)
                  · have h := h.1 c
                    refine m_aload_n C dX12_childOn_241 rfl ?_
                    refine f_getA C dX12_childOn_242 fl_KilnBenchModel_147 rfl (by decide) (by decide) (by decide) (by decide) ?_
                    refine m_iload_n C dX12_childOn_245 rfl ?_
                    obtain ⟨hb, h⟩ := h
                    refine f_iald C dX12_childOn_246 (m_arO (a := 0) (len := 176) rfl rfl) (by decide) hb ?_
                    refine m_iconst C dX12_childOn_247 (by unfold in32; omega) ?_
                    refine m_icmp_eq (tgt := 272) C dX12_childOn_248 (by decide) (fun c => ?_) (fun c => ?_)
                    · have h := h.1 c
                      refine m_iconst C dX12_childOn_272 (by unfold in32; omega) ?_
                      refine o_istore [some (vR 34 0), some (vI a1), some (vI a2), some (vI x1), some (vI 0), some (vI 0)] C dX12_childOn_273 (by decide) rfl ?_
                      exact h
                    · have h := h.2 c
                      refine m_aload_n C dX12_childOn_251 rfl ?_
                      refine m_aload_n C dX12_childOn_252 rfl ?_
                      refine f_getA C dX12_childOn_253 fl_KilnBenchModel_147 rfl (by decide) (by decide) (by decide) (by decide) ?_
                      refine m_iload_n C dX12_childOn_256 rfl ?_
                      obtain ⟨hb, h⟩ := h
                      refine f_iald C dX12_childOn_257 (m_arO (a := 0) (len := 176) rfl rfl) (by decide) hb ?_
                      refine m_aload_n C dX12_childOn_258 rfl ?_
                      refine f_getA C dX12_childOn_259 fl_KilnBenchModel_150 rfl (by decide) (by decide) (by decide) (by decide) ?_
                      refine m_iload_n C dX12_childOn_262 rfl ?_
                      obtain ⟨hb, h⟩ := h
                      refine f_iald C dX12_childOn_263 (m_arO (a := 0) (len := 176) rfl rfl) (by decide) hb ?_
                      refine f_callVi (As := [vI (μ13 34 45 x1.toNat), vI (μ13 34 46 x1.toNat)]) (st := []) C dX12_childOn_264 ml_KilnBenchModel_462 rfl (by decide) rfl rfl rfl (Nat.le_of_ble_eq_true rfl) h (fun r16 μ15 h => ?_)
                      refine m_if_ne (tgt := 272) C dX12_childOn_267 (by decide) (fun c => ?_) (fun c => ?_)
                      · have h := h.1 c
                        refine m_iconst C dX12_childOn_272 (by unfold in32; omega) ?_
                        refine o_istore [some (vR 34 0), some (vI a1), some (vI a2), some (vI x1), some (vI 0), some (vI 0)] C dX12_childOn_273 (by decide) rfl ?_
                        exact h
                      · have h := h.2 c
                        refine m_iconst C dX12_childOn_270 (by unfold in32; omega) ?_
                        exact f_zret C R rfl dX12_childOn_271 (by decide) h
                  · have h := h.2 c
                    refine m_iconst C dX12_childOn_239 (by unfold in32; omega) ?_
                    exact f_zret C R rfl dX12_childOn_240 (by decide) h
            · have h := h.2 c
              refine m_iconst C dX12_childOn_162 (by unfold in32; omega) ?_
              refine m_goto (tgt := 167) C dX12_childOn_163 (by decide) ?_
              refine m_icmp_eq (tgt := 172) C dX12_childOn_167 (by decide) (fun c => absurd c (by decide)) (fun c => ?_)
              refine m_iconst C dX12_childOn_170 (by unfold in32; omega) ?_
              exact f_zret C R rfl dX12_childOn_171 (by decide) h
          · have h := h.2 c
            refine m_iconst C dX12_childOn_147 (by unfold in32; omega) ?_
            refine m_goto (tgt := 152) C dX12_childOn_148 (by decide) ?_
            refine m_aload_n C dX12_childOn_152 rfl ?_
            refine f_getA C dX12_childOn_153 fl_KilnBenchModel_150 rfl (by decide) (by decide) (by decide) (by decide) ?_
            refine m_iload_n C dX12_childOn_156 rfl ?_
            obtain ⟨hb, h⟩ := h
            refine f_iald C dX12_childOn_157 (m_arO (a := 0) (len := 176) rfl rfl) (by decide) hb ?_
            refine m_iconst C dX12_childOn_158 (by unfold in32; omega) ?_
            refine m_icmp_ne (tgt := 166) C dX12_childOn_159 (by decide) (fun c => ?_) (fun c => ?_)
            · have h := h.1 c
              refine m_iconst C dX12_childOn_166 (by unfold in32; omega) ?_
              refine m_icmp_eq (tgt := 172) C dX12_childOn_167 (by decide) (fun c => absurd c (by decide)) (fun c => ?_)
              refine m_iconst C dX12_childOn_170 (by unfold in32; omega) ?_
              exact f_zret C R rfl dX12_childOn_171 (by decide) h
            · have h := h.2 c
              refine m_iconst C dX12_childOn_162 (by unfold in32; omega) ?_
              refine m_goto (tgt := 167) C dX12_childOn_163 (by decide) ?_
              refine m_icmp_eq (tgt := 172) C dX12_childOn_167 (by decide) (fun c => ?_) (fun c => absurd c (by decide))
              refine m_iload C dX12_childOn_172 rfl ?_
              refine m_if_eq (tgt := 208) C dX12_childOn_174 (by decide) (fun c => ?_) (fun c => absurd c (by decide))
              refine m_aload_n C dX12_childOn_208 rfl ?_
              refine f_getA C dX12_childOn_209 fl_KilnBenchModel_153 rfl (by decide) (by decide) (by decide) (by decide) ?_
              refine m_iload_n C dX12_childOn_212 rfl ?_
              obtain ⟨hb, h⟩ := h
              refine f_iald C dX12_childOn_213 (m_arO (a := 0) (len := 176) rfl rfl) (by decide) hb ?_
              refine m_iconst C dX12_childOn_214 (by unfold in32; omega) ?_
              refine m_icmp_ne (tgt := 239) C dX12_childOn_215 (by decide) (fun c => ?_) (fun c => ?_)
              · have h := h.1 c
                refine m_iconst C dX12_childOn_239 (by unfold in32; omega) ?_
                exact f_zret C R rfl dX12_childOn_240 (by decide) h
              · have h := h.2 c
                refine m_aload_n C dX12_childOn_218 rfl ?_
                refine f_getA C dX12_childOn_219 fl_KilnBenchModel_7 rfl (by decide) (by decide) (by decide) (by decide) ?_
                refine m_iload_n C dX12_childOn_222 rfl ?_
                refine m_iconst C dX12_childOn_223 (by unfold in32; omega) ?_
                refine m_iadd C dX12_childOn_224 ?_
                obtain ⟨hb, h⟩ := h
                refine f_iald C dX12_childOn_225 (m_arO (a := 0) (len := 1800) rfl rfl) (by decide) hb ?_
                refine m_iconst C dX12_childOn_226 (by unfold in32; omega) ?_
                refine m_icmp_eq (tgt := 239) C dX12_childOn_227 (by decide) (fun c => ?_) (fun c => ?_)
                · have h := h.1 c
                  refine m_iconst C dX12_childOn_239 (by unfold in32; omega) ?_
                  exact f_zret C R rfl dX12_childOn_240 (by decide) h
                · have h := h.2 c
                  refine m_aload_n C dX12_childOn_230 rfl ?_
                  refine f_getA C dX12_childOn_231 fl_KilnBenchModel_156 rfl (by decide) (by decide) (by decide) (by decide) ?_
                  refine m_iload_n C dX12_childOn_234 rfl ?_
                  obtain ⟨hb, h⟩ := h
                  refine f_iald C dX12_childOn_235 (m_arO (a := 0) (len := 176) rfl rfl) (by decide) hb ?_
                  refine m_if_eq (tgt := 241) C dX12_childOn_236 (by decide) (fun c => ?_) (fun c => ?_)
                  · have h := h.1 c
                    refine m_aload_n C dX12_childOn_241 rfl ?_
                    refine f_getA C dX12_childOn_242 fl_KilnBenchModel_147 rfl (by decide) (by decide) (by decide) (by decide) ?_
                    refine m_iload_n C dX12_childOn_245 rfl ?_
                    obtain ⟨hb, h⟩ := h
                    refine f_iald C dX12_childOn_246 (m_arO (a := 0) (len := 176) rfl rfl) (by decide) hb ?_
                    refine m_iconst C dX12_childOn_247 (by unfold in32; omega) ?_
                    refine m_icmp_eq (tgt := 272) C dX12_childOn_248 (by decide) (fun c => ?_) (fun c => ?_)
                    · have h := h.1 c
                      refine m_iconst C dX12_childOn_272 (by unfold in32; omega) ?_
                      refine o_istore [some (vR 34 0), some (vI a1), some (vI a2), some (vI x1), some (vI 0), some (vI 0)] C dX12_childOn_273 (by decide) rfl ?_
                      exact h
                    · have h := h.2 c
                      refine m_aload_n C dX12_childOn_251 rfl ?_
                      refine m_aload_n C dX12_childOn_252 rfl ?_
                      refine f_getA C dX12_childOn_253 fl_KilnBenchModel_147 rfl (by decide) (by decide) (by decide) (by decide) ?_
                      refine m_iload_n C dX12_childOn_256 rfl ?_
                      obtain ⟨hb, h⟩ := h
                      refine f_iald C dX12_childOn_257 (m_arO (a := 0) (len := 176) rfl rfl) (by decide) hb ?_
                      refine m_aload_n C dX12_childOn_258 rfl ?_
                      refine f_getA C dX12_childOn_259 fl_KilnBenchModel_150 rfl (by decide) (by decide) (by decide) (by decide) ?_
                      refine m_iload_n C dX12_childOn_262 rfl ?_
                      obtain ⟨hb, h⟩ := h
                      refine f_iald C dX12_childOn_263 (m_arO (a := 0) (len := 176) rfl rfl) (by decide) hb ?_
                      refine f_callVi (As := [vI (μ13 34 45 x1.toNat), vI (μ13 34 46 x1.toNat)]) (st := []) C dX12_childOn_264 ml_KilnBenchModel_462 rfl (by decide) rfl rfl rfl (Nat.le_of_ble_eq_true rfl) h (fun r20 μ19 h => ?_)
                      refine m_if_ne (tgt := 272) C dX12_childOn_267 (by decide) (fun c => ?_) (fun c => ?_)
                      · have h := h.1 c
                        refine m_iconst C dX12_childOn_272 (by unfold in32; omega) ?_
                        refine o_istore [some (vR 34 0), some (vI a1), some (vI a2), some (vI x1), some (vI 0), some (vI 0)] C dX12_childOn_273 (by decide) rfl ?_
                        exact h
                      · have h := h.2 c
                        refine m_iconst C dX12_childOn_270 (by unfold in32; omega) ?_
                        exact f_zret C R rfl dX12_childOn_271 (by decide) h
                  · have h := h.2 c
                    refine m_iconst C dX12_childOn_239 (by unfold in32; omega) ?_
                    exact f_zret C R rfl dX12_childOn_240 (by decide) h
    · have h := h.2 c
      refine m_iconst C dX12_childOn_106 (by unfold in32; omega) ?_
      refine m_iload_n C dX12_childOn_107 rfl ?_
      refine m_ishl C dX12_childOn_108 ?_
      refine m_goto (tgt := 113) C dX12_childOn_109 (by decide) ?_
      refine m_ior C dX12_childOn_113 ?_
      refine f_iast C dX12_childOn_114 (m_arO (a := 0) (len := 22) rfl rfl) (by decide) (by decide) ?_
      refine n_mem (fun μ22 eμ22 => ?_)
      have h := h μ22 eμ22
      refine m_aload_n C dX12_childOn_115 rfl ?_
      refine f_getA C dX12_childOn_116 fl_KilnBenchModel_7 rfl (by decide) (by decide) (by decide) (by decide) ?_
      refine m_iload_n C dX12_childOn_119 rfl ?_
      obtain ⟨hb, h⟩ := h
      refine f_iald C dX12_childOn_120 (m_arO (a := 0) (len := 1800) rfl rfl) (by decide) hb ?_
      refine m_iconst C dX12_childOn_121 (by unfold in32; omega) ?_
      refine m_icmp_gt (tgt := 170) C dX12_childOn_122 (by decide) (fun c => ?_) (fun c => ?_)
      · have h := h.1 c
        refine m_iconst C dX12_childOn_170 (by unfold in32; omega) ?_
        exact f_zret C R rfl dX12_childOn_171 (by decide) h
      · have h := h.2 c
        refine m_aload_n C dX12_childOn_125 rfl ?_
        refine f_getA C dX12_childOn_126 fl_KilnBenchModel_7 rfl (by decide) (by decide) (by decide) (by decide) ?_
        refine m_iload_n C dX12_childOn_129 rfl ?_
        refine m_iconst C dX12_childOn_130 (by unfold in32; omega) ?_
        refine m_iadd C dX12_childOn_131 ?_
        obtain ⟨hb, h⟩ := h
        refine f_iald C dX12_childOn_132 (m_arO (a := 0) (len := 1800) rfl rfl) (by decide) hb ?_
        refine m_iconst C dX12_childOn_133 (by unfold in32; omega) ?_
        refine m_icmp_gt (tgt := 170) C dX12_childOn_134 (by decide) (fun c => ?_) (fun c => ?_)
        · have h := h.1 c
          refine m_iconst C dX12_childOn_170 (by unfold in32; omega) ?_
          exact f_zret C R rfl dX12_childOn_171 (by decide) h
        · have h := h.2 c
          refine m_aload_n C dX12_childOn_137 rfl ?_
          refine f_getA C dX12_childOn_138 fl_KilnBenchModel_147 rfl (by decide) (by decide) (by decide) (by decide) ?_
          refine m_iload_n C dX12_childOn_141 rfl ?_
          obtain ⟨hb, h⟩ := h
          refine f_iald C dX12_childOn_142 (m_arO (a := 0) (len := 176) rfl rfl) (by decide) hb ?_
          refine m_iconst C dX12_childOn_143 (by unfold in32; omega) ?_
          refine m_icmp_ne (tgt := 151) C dX12_childOn_144 (by decide) (fun c => ?_) (fun c => ?_)
          · have h := h.1 c
            refine m_iconst C dX12_childOn_151 (by unfold in32; omega) ?_
            refine m_aload_n C dX12_childOn_152 rfl ?_
            refine f_getA C dX12_childOn_153 fl_KilnBenchModel_150 rfl (by decide) (by decide) (by decide) (by decide) ?_
            refine m_iload_n C dX12_childOn_156 rfl ?_
            obtain ⟨hb, h⟩ := h
            refine f_iald C dX12_childOn_157 (m_arO (a := 0) (len := 176) rfl rfl) (by decide) hb ?_
            refine m_iconst C dX12_childOn_158 (by unfold in32; omega) ?_
            refine m_icmp_ne (tgt := 166) C dX12_childOn_159 (by decide) (fun c => ?_) (fun c => ?_)
            · have h := h.1 c
              refine m_iconst C dX12_childOn_166 (by unfold in32; omega) ?_
              refine m_icmp_eq (tgt := 172) C dX12_childOn_167 (by decide) (fun c => ?_) (fun c => absurd c (by decide))
              refine m_iload C dX12_childOn_172 rfl ?_
              refine m_if_eq (tgt := 208) C dX12_childOn_174 (by decide) (fun c => ?_) (fun c => absurd c (by decide))
              refine m_aload_n C dX12_childOn_208 rfl ?_
              refine f_getA C dX12_childOn_209 fl_KilnBenchModel_153 rfl (by decide) (by decide) (by decide) (by decide) ?_
              refine m_iload_n C dX12_childOn_212 rfl ?_
              obtain ⟨hb, h⟩ := h
              refine f_iald C dX12_childOn_213 (m_arO (a := 0) (len := 176) rfl rfl) (by decide) hb ?_
              refine m_iconst C dX12_childOn_214 (by unfold in32; omega) ?_
              refine m_icmp_ne (tgt := 239) C dX12_childOn_215 (by decide) (fun c => ?_) (fun c => ?_)
              · have h := h.1 c
                refine m_iconst C dX12_childOn_239 (by unfold in32; omega) ?_
                exact f_zret C R rfl dX12_childOn_240 (by decide) h
              · have h := h.2 c
                refine m_aload_n C dX12_childOn_218 rfl ?_
                refine f_getA C dX12_childOn_219 fl_KilnBenchModel_7 rfl (by decide) (by decide) (by decide) (by decide) ?_
                refine m_iload_n C dX12_childOn_222 rfl ?_
                refine m_iconst C dX12_childOn_223 (by unfold in32; omega) ?_
                refine m_iadd C dX12_childOn_224 ?_
                obtain ⟨hb, h⟩ := h
                refine f_iald C dX12_childOn_225 (m_arO (a := 0) (len := 1800) rfl rfl) (by decide) hb ?_
                refine m_iconst C dX12_childOn_226 (by unfold in32; omega) ?_
                refine m_icmp_eq (tgt := 239) C dX12_childOn_227 (by decide) (fun c => ?_) (fun c => ?_)
                · have h := h.1 c
                  refine m_iconst C dX12_childOn_239 (by unfold in32; omega) ?_
                  exact f_zret C R rfl dX12_childOn_240 (by decide) h
                · have h := h.2 c
                  refine m_aload_n C dX12_childOn_230 rfl ?_
                  refine f_getA C dX12_childOn_231 fl_KilnBenchModel_156 rfl (by decide) (by decide) (by decide) (by decide) ?_
                  refine m_iload_n C dX12_childOn_234 rfl ?_
                  obtain ⟨hb, h⟩ := h
                  refine f_iald C dX12_childOn_235 (m_arO (a := 0) (len := 176) rfl rfl) (by decide) hb ?_
                  refine m_if_eq (tgt := 241) C dX12_childOn_236 (by decide) (fun c => ?_) (fun c => ?_)
                  · have h := h.1 c
                    refine m_aload_n C dX12_childOn_241 rfl ?_
                    refine f_getA C dX12_childOn_242 fl_KilnBenchModel_147 rfl (by decide) (by decide) (by decide) (by decide) ?_
                    refine m_iload_n C dX12_childOn_245 rfl ?_
                    obtain ⟨hb, h⟩ := h
                    refine f_iald C dX12_childOn_246 (m_arO (a := 0) (len := 176) rfl rfl) (by decide) hb ?_
                    refine m_iconst C dX12_childOn_247 (by unfold in32; omega) ?_
                    refine m_icmp_eq (tgt := 272) C dX12_childOn_248 (by decide) (fun c => ?_) (fun c => ?_)
                    · have h := h.1 c
                      refine m_iconst C dX12_childOn_272 (by unfold in32; omega) ?_
                      refine o_istore [some (vR 34 0), some (vI a1), some (vI a2), some (vI x1), some (vI 0), some (vI 0)] C dX12_childOn_273 (by decide) rfl ?_
                      exact h
                    · have h := h.2 c
                      refine m_aload_n C dX12_childOn_251 rfl ?_
                      refine m_aload_n C dX12_childOn_252 rfl ?_
                      refine f_getA C dX12_childOn_253 fl_KilnBenchModel_147 rfl (by decide) (by decide) (by decide) (by decide) ?_
                      refine m_iload_n C dX12_childOn_256 rfl ?_
                      obtain ⟨hb, h⟩ := h
                      refine f_iald C dX12_childOn_257 (m_arO (a := 0) (len := 176) rfl rfl) (by decide) hb ?_
                      refine m_aload_n C dX12_childOn_258 rfl ?_
                      refine f_getA C dX12_childOn_259 fl_KilnBenchModel_150 rfl (by decide) (by decide) (by decide) (by decide) ?_
                      refine m_iload_n C dX12_childOn_262 rfl ?_
                      obtain ⟨hb, h⟩ := h
                      refine f_iald C dX12_childOn_263 (m_arO (a := 0) (len := 176) rfl rfl) (by decide) hb ?_
                      refine f_callVi (As := [vI (μ22 34 45 x1.toNat), vI (μ22 34 46 x1.toNat)]) (st := []) C dX12_childOn_264 ml_KilnBenchModel_462 rfl (by decide) rfl rfl rfl (Nat.le_of_ble_eq_true rfl) h (fun r25 μ24 h => ?_)
                      refine m_if_ne (tgt := 272) C dX12_childOn_267 (by decide) (fun c => ?_) (fun c => ?_)
                      · have h := h.1 c
                        refine m_iconst C dX12_childOn_272 (by unfold in32; omega) ?_
                        refine o_istore [some (vR 34 0), some (vI a1), some (vI a2), some (vI x1), some (vI 0), some (vI 0)] C dX12_childOn_273 (by decide) rfl ?_
                        exact h
                      · have h := h.2 c
                        refine m_iconst C dX12_childOn_270 (by unfold in32; omega) ?_
                        exact f_zret C R rfl dX12_childOn_271 (by decide) h
                  · have h := h.2 c
                    refine m_iconst C dX12_childOn_239 (by unfold in32; omega) ?_
                    exact f_zret C R rfl dX12_childOn_240 (by decide) h
            · have h := h.2 c
              refine m_iconst C dX12_childOn_162 (by unfold in32; omega) ?_
              refine m_goto (tgt := 167) C dX12_childOn_163 (by decide) ?_
              refine m_icmp_eq (tgt := 172) C dX12_childOn_167 (by decide) (fun c => absurd c (by decide)) (fun c => ?_)
              refine m_iconst C dX12_childOn_170 (by unfold in32; omega) ?_
              exact f_zret C R rfl dX12_childOn_171 (by decide) h
          · have h := h.2 c
            refine m_iconst C dX12_childOn_147 (by unfold in32; omega) ?_
            refine m_goto (tgt := 152) C dX12_childOn_148 (by decide) ?_
            refine m_aload_n C dX12_childOn_152 rfl ?_
            refine f_getA C dX12_childOn_153 fl_KilnBenchModel_150 rfl (by decide) (by decide) (by decide) (by decide) ?_
            refine m_iload_n C dX12_childOn_156 rfl ?_
            obtain ⟨hb, h⟩ := h
            refine f_iald C dX12_childOn_157 (m_arO (a := 0) (len := 176) rfl rfl) (by decide) hb ?_
            refine m_iconst C dX12_childOn_158 (by unfold in32; omega) ?_
            refine m_icmp_ne (tgt := 166) C dX12_childOn_159 (by decide) (fun c => ?_) (fun c => ?_)
            · have h := h.1 c
              refine m_iconst C dX12_childOn_166 (by unfold in32; omega) ?_
              refine m_icmp_eq (tgt := 172) C dX12_childOn_167 (by decide) (fun c => absurd c (by decide)) (fun c => ?_)
              refine m_iconst C dX12_childOn_170 (by unfold in32; omega) ?_
              exact f_zret C R rfl dX12_childOn_171 (by decide) h
            · have h := h.2 c
              refine m_iconst C dX12_childOn_162 (by unfold in32; omega) ?_
              refine m_goto (tgt := 167) C dX12_childOn_163 (by decide) ?_
              refine m_icmp_eq (tgt := 172) C dX12_childOn_167 (by decide) (fun c => ?_) (fun c => absurd c (by decide))
              refine m_iload C dX12_childOn_172 rfl ?_
              refine m_if_eq (tgt := 208) C dX12_childOn_174 (by decide) (fun c => ?_) (fun c => absurd c (by decide))
              refine m_aload_n C dX12_childOn_208 rfl ?_
              refine f_getA C dX12_childOn_209 fl_KilnBenchModel_153 rfl (by decide) (by decide) (by decide) (by decide) ?_
              refine m_iload_n C dX12_childOn_212 rfl ?_
              obtain ⟨hb, h⟩ := h
              refine f_iald C dX12_childOn_213 (m_arO (a := 0) (len := 176) rfl rfl) (by decide) hb ?_
              refine m_iconst C dX12_childOn_214 (by unfold in32; omega) ?_
              refine m_icmp_ne (tgt := 239) C dX12_childOn_215 (by decide) (fun c => ?_) (fun c => ?_)
              · have h := h.1 c
                refine m_iconst C dX12_childOn_239 (by unfold in32; omega) ?_
                exact f_zret C R rfl dX12_childOn_240 (by decide) h
              · have h := h.2 c
                refine m_aload_n C dX12_childOn_218 rfl ?_
                refine f_getA C dX12_childOn_219 fl_KilnBenchModel_7 rfl (by decide) (by decide) (by decide) (by decide) ?_
                refine m_iload_n C dX12_childOn_222 rfl ?_
                refine m_iconst C dX12_childOn_223 (by unfold in32; omega) ?_
                refine m_iadd C dX12_childOn_224 ?_
                obtain ⟨hb, h⟩ := h
                refine f_iald C dX12_childOn_225 (m_arO (a := 0) (len := 1800) rfl rfl) (by decide) hb ?_
                refine m_iconst C dX12_childOn_226 (by unfold in32; omega) ?_
                refine m_icmp_eq (tgt := 239) C dX12_childOn_227 (by decide) (fun c => ?_) (fun c => ?_)
                · have h := h.1 c
                  refine m_iconst C dX12_childOn_239 (by unfold in32; omega) ?_
                  exact f_zret C R rfl dX12_childOn_240 (by decide) h
                · have h := h.2 c
                  refine m_aload_n C dX12_childOn_230 rfl ?_
                  refine f_getA C dX12_childOn_231 fl_KilnBenchModel_156 rfl (by decide) (by decide) (by decide) (by decide) ?_
                  refine m_iload_n C dX12_childOn_234 rfl ?_
                  obtain ⟨hb, h⟩ := h
                  refine f_iald C dX12_childOn_235 (m_arO (a := 0) (len := 176) rfl rfl) (by decide) hb ?_
                  refine m_if_eq (tgt := 241) C dX12_childOn_236 (by decide) (fun c => ?_) (fun c => ?_)
                  · have h := h.1 c
                    refine m_aload_n C dX12_childOn_241 rfl ?_
                    refine f_getA C dX12_childOn_242 fl_KilnBenchModel_147 rfl (by decide) (by decide) (by decide) (by decide) ?_
                    refine m_iload_n C dX12_childOn_245 rfl ?_
                    obtain ⟨hb, h⟩ := h
                    refine f_iald C dX12_childOn_246 (m_arO (a := 0) (len := 176) rfl rfl) (by decide) hb ?_
                    refine m_iconst C dX12_childOn_247 (by unfold in32; omega) ?_
                    refine m_icmp_eq (tgt := 272) C dX12_childOn_248 (by decide) (fun c => ?_) (fun c => ?_)
                    · have h := h.1 c
                      refine m_iconst C dX12_childOn_272 (by unfold in32; omega) ?_
                      refine o_istore [some (vR 34 0), some (vI a1), some (vI a2), some (vI x1), some (vI 0), some (vI 0)] C dX12_childOn_273 (by decide) rfl ?_
                      exact h
                    · have h := h.2 c
                      refine m_aload_n C dX12_childOn_251 rfl ?_
                      refine m_aload_n C dX12_childOn_252 rfl ?_
                      refine f_getA C dX12_childOn_253 fl_KilnBenchModel_147 rfl (by decide) (by decide) (by decide) (by decide) ?_
                      refine m_iload_n C dX12_childOn_256 rfl ?_
                      obtain ⟨hb, h⟩ := h
                      refine f_iald C dX12_childOn_257 (m_arO (a := 0) (len := 176) rfl rfl) (by decide) hb ?_
                      refine m_aload_n C dX12_childOn_258 rfl ?_
                      refine f_getA C dX12_childOn_259 fl_KilnBenchModel_150 rfl (by decide) (by decide) (by decide) (by decide) ?_
                      refine m_iload_n C dX12_childOn_262 rfl ?_
                      obtain ⟨hb, h⟩ := h
                      refine f_iald C dX12_childOn_263 (m_arO (a := 0) (len := 176) rfl rfl) (by decide) hb ?_
                      refine f_callVi (As := [vI (μ22 34 45 x1.toNat), vI (μ22 34 46 x1.toNat)]) (st := []) C dX12_childOn_264 ml_KilnBenchModel_462 rfl (by decide) rfl rfl rfl (Nat.le_of_ble_eq_true rfl) h (fun r29 μ28 h => ?_)
                      refine m_if_ne (tgt := 272) C dX12_childOn_267 (by decide) (fun c => ?_) (fun c => ?_)
                      · have h := h.1 c
                        refine m_iconst C dX12_childOn_272 (by unfold in32; omega) ?_
                        refine o_istore [some (vR 34 0), some (vI a1), some (vI a2), some (vI x1), some (vI 0), some (vI 0)] C dX12_childOn_273 (by decide) rfl ?_
                        exact h
                      · have h := h.2 c
                        refine m_iconst C dX12_childOn_270 (by unfold in32; omega) ?_
                        exact f_zret C R rfl dX12_childOn_271 (by decide) h
                  · have h := h.2 c
                    refine m_iconst C dX12_childOn_239 (by unfold in32; omega) ?_
                    exact f_zret C R rfl dX12_childOn_240 (by decide) h
  · have h := h.2 c
    refine m_iconst C dX12_childOn_15 (by unfold in32; omega) ?_
    refine m_goto (tgt := 20) C dX12_childOn_16 (by decide) ?_
    refine o_istore [some (vR 34 0), some (vI a1), some (vI a2), some (vI x1), some (vI 1), none] C dX12_childOn_20 (by decide) rfl ?_
    refine m_aload_n C dX12_childOn_22 rfl ?_
    refine f_getA C dX12_childOn_23 fl_KilnBenchModel_147 rfl (by decide) (by decide) (by decide) (by decide) ?_
    refine m_iload_n C dX12_childOn_26 rfl ?_
    refine m_aload_n C dX12_childOn_27 rfl ?_
    refine f_getA C dX12_childOn_28 fl_KilnBenchModel_7 rfl (by decide) (by decide) (by decide) (by decide) ?_
    refine m_iload_n C dX12_childOn_31 rfl ?_
    refine m_iconst C dX12_childOn_32 (by unfold in32; omega) ?_
    refine m_iadd C dX12_childOn_33 ?_
    obtain ⟨hb, h⟩ := h
    refine f_iald C dX12_childOn_34 (m_arO (a := 0) (len := 1800) rfl rfl) (by decide) hb ?_
    refine f_callSi (As := [vI (μ 34 1 (w32 (a2 + 1)).toNat)]) (st := [vI x1, vR 34 45]) C dX12_childOn_35 ml_KilnBenchModel_514 rfl rfl (Nat.le_of_ble_eq_true rfl) h (fun r33 μ32 h => ?_)
    obtain ⟨hb, h⟩ := h
    refine f_iast C dX12_childOn_38 (m_arO (a := 0) (len := 176) rfl rfl) (by decide) hb ?_
    refine n_mem (fun μ34 eμ34 => ?_)
    have h := h μ34 eμ34
    refine m_aload_n C dX12_childOn_39 rfl ?_
    refine f_getA C dX12_childOn_40 fl_KilnBenchModel_150 rfl (by decide) (by decide) (by decide) (by decide) ?_
    refine m_iload_n C dX12_childOn_43 rfl ?_
    refine m_aload_n C dX12_childOn_44 rfl ?_
    refine f_getA C dX12_childOn_45 fl_KilnBenchModel_7 rfl (by decide) (by decide) (by decide) (by decide) ?_
    refine m_iload_n C dX12_childOn_48 rfl ?_
    refine m_iconst C dX12_childOn_49 (by unfold in32; omega) ?_
    refine m_iadd C dX12_childOn_50 ?_
    obtain ⟨hb, h⟩ := h
    refine f_iald C dX12_childOn_51 (m_arO (a := 0) (len := 1800) rfl rfl) (by decide) hb ?_
    refine f_callSi (As := [vI (μ34 34 1 (w32 (a2 + 2)).toNat)]) (st := [vI x1, vR 34 46]) C dX12_childOn_52 ml_KilnBenchModel_514 rfl rfl (Nat.le_of_ble_eq_true rfl) h (fun r36 μ35 h => ?_)
    obtain ⟨hb, h⟩ := h
    refine f_iast C dX12_childOn_55 (m_arO (a := 0) (len := 176) rfl rfl) (by decide) hb ?_
    refine n_mem (fun μ37 eμ37 => ?_)
    have h := h μ37 eμ37
    refine m_aload_n C dX12_childOn_56 rfl ?_
    refine f_getA C dX12_childOn_57 fl_KilnBenchModel_153 rfl (by decide) (by decide) (by decide) (by decide) ?_
    refine m_iload_n C dX12_childOn_60 rfl ?_
    refine m_aload_n C dX12_childOn_61 rfl ?_
    refine f_getA C dX12_childOn_62 fl_KilnBenchModel_7 rfl (by decide) (by decide) (by decide) (by decide) ?_
    refine m_iload_n C dX12_childOn_65 rfl ?_
    refine m_iconst C dX12_childOn_66 (by unfold in32; omega) ?_
    refine m_iadd C dX12_childOn_67 ?_
    obtain ⟨hb, h⟩ := h
    refine f_iald C dX12_childOn_68 (m_arO (a := 0) (len := 1800) rfl rfl) (by decide) hb ?_
    refine f_callSi (As := [vI (μ37 34 1 (w32 (a2 + 3)).toNat)]) (st := [vI x1, vR 34 47]) C dX12_childOn_69 ml_KilnBenchModel_514 rfl rfl (Nat.le_of_ble_eq_true rfl) h (fun r39 μ38 h => ?_)
    obtain ⟨hb, h⟩ := h
    refine f_iast C dX12_childOn_72 (m_arO (a := 0) (len := 176) rfl rfl) (by decide) hb ?_
    refine n_mem (fun μ40 eμ40 => ?_)
    have h := h μ40 eμ40
    refine m_aload_n C dX12_childOn_73 rfl ?_
    refine f_getA C dX12_childOn_74 fl_KilnBenchModel_156 rfl (by decide) (by decide) (by decide) (by decide) ?_
    refine m_iload_n C dX12_childOn_77 rfl ?_
    refine m_aload_n C dX12_childOn_78 rfl ?_
    refine f_getA C dX12_childOn_79 fl_KilnBenchModel_7 rfl (by decide) (by decide) (by decide) (by decide) ?_
    refine m_iload_n C dX12_childOn_82 rfl ?_
    refine m_iconst C dX12_childOn_83 (by unfold in32; omega) ?_
    refine m_iadd C dX12_childOn_84 ?_
    obtain ⟨hb, h⟩ := h
    refine f_iald C dX12_childOn_85 (m_arO (a := 0) (len := 1800) rfl rfl) (by decide) hb ?_
    obtain ⟨hb, h⟩ := h
    refine f_iast C dX12_childOn_86 (m_arO (a := 0) (len := 176) rfl rfl) (by decide) hb ?_
    refine n_mem (fun μ41 eμ41 => ?_)
    have h := h μ41 eμ41
    refine m_aload_n C dX12_childOn_87 rfl ?_
    refine f_getA C dX12_childOn_88 fl_KilnBenchModel_159 rfl (by decide) (by decide) (by decide) (by decide) ?_
    refine m_iconst C dX12_childOn_91 (by unfold in32; omega) ?_
    refine m_dup2 C dX12_childOn_92 rfl rfl ?_
    refine f_iald C dX12_childOn_93 (m_arO (a := 0) (len := 22) rfl rfl) (by decide) (by decide) ?_
    refine m_aload_n C dX12_childOn_94 rfl ?_
    refine f_getA C dX12_childOn_95 fl_KilnBenchModel_7 rfl (by decide) (by decide) (by decide) (by decide) ?_
    refine m_iload_n C dX12_childOn_98 rfl ?_
    refine m_iconst C dX12_childOn_99 (by unfold in32; omega) ?_
    refine m_iadd C dX12_childOn_100 ?_
    obtain ⟨hb, h⟩ := h
    refine f_iald C dX12_childOn_101 (m_arO (a := 0) (len := 1800) rfl rfl) (by decide) hb ?_
    refine m_iconst C dX12_childOn_102 (by unfold in32; omega) ?_
    refine m_icmp_ne (tgt := 112) C dX12_childOn_103 (by decide) (fun c => ?_) (fun c => ?_)
    · have h := h.1 c
      refine m_iconst C dX12_childOn_112 (by unfold in32; omega) ?_
      refine m_ior C dX12_childOn_113 ?_
      refine f_iast C dX12_childOn_114 (m_arO (a := 0) (len := 22) rfl rfl) (by decide) (by decide) ?_
      refine n_mem (fun μ42 eμ42 => ?_)
      have h := h μ42 eμ42
      refine m_aload_n C dX12_childOn_115 rfl ?_
      refine f_getA C dX12_childOn_116 fl_KilnBenchModel_7 rfl (by decide) (by decide) (by decide) (by decide) ?_
      refine m_iload_n C dX12_childOn_119 rfl ?_
      obtain ⟨hb, h⟩ := h
      refine f_iald C dX12_childOn_120 (m_arO (a := 0) (len := 1800) rfl rfl) (by decide) hb ?_
      refine m_iconst C dX12_childOn_121 (by unfold in32; omega) ?_
      refine m_icmp_gt (tgt := 170) C dX12_childOn_122 (by decide) (fun c => ?_) (fun c => ?_)
      · have h := h.1 c
        refine m_iconst C dX12_childOn_170 (by unfold in32; omega) ?_
        exact f_zret C R rfl dX12_childOn_171 (by decide) h
      · have h := h.2 c
        refine m_aload_n C dX12_childOn_125 rfl ?_
        refine f_getA C dX12_childOn_126 fl_KilnBenchModel_7 rfl (by decide) (by decide) (by decide) (by decide) ?_
        refine m_iload_n C dX12_childOn_129 rfl ?_
        refine m_iconst C dX12_childOn_130 (by unfold in32; omega) ?_
        refine m_iadd C dX12_childOn_131 ?_
        obtain ⟨hb, h⟩ := h
        refine f_iald C dX12_childOn_132 (m_arO (a := 0) (len := 1800) rfl rfl) (by decide) hb ?_
        refine m_iconst C dX12_childOn_133 (by unfold in32; omega) ?_
        refine m_icmp_gt (tgt := 170) C dX12_childOn_134 (by decide) (fun c => ?_) (fun c => ?_)
        · have h := h.1 c
          refine m_iconst C dX12_childOn_170 (by unfold in32; omega) ?_
          exact f_zret C R rfl dX12_childOn_171 (by decide) h
        · have h := h.2 c
          refine m_aload_n C dX12_childOn_137 rfl ?_
          refine f_getA C dX12_childOn_138 fl_KilnBenchModel_147 rfl (by decide) (by decide) (by decide) (by decide) ?_
          refine m_iload_n C dX12_childOn_141 rfl ?_
          obtain ⟨hb, h⟩ := h
          refine f_iald C dX12_childOn_142 (m_arO (a := 0) (len := 176) rfl rfl) (by decide) hb ?_
          refine m_iconst C dX12_childOn_143 (by unfold in32; omega) ?_
          refine m_icmp_ne (tgt := 151) C dX12_childOn_144 (by decide) (fun c => ?_) (fun c => ?_)
          · have h := h.1 c
            refine m_iconst C dX12_childOn_151 (by unfold in32; omega) ?_
            refine m_aload_n C dX12_childOn_152 rfl ?_
            refine f_getA C dX12_childOn_153 fl_KilnBenchModel_150 rfl (by decide) (by decide) (by decide) (by decide) ?_
            refine m_iload_n C dX12_childOn_156 rfl ?_
            obtain ⟨hb, h⟩ := h
            refine f_iald C dX12_childOn_157 (m_arO (a := 0) (len := 176) rfl rfl) (by decide) hb ?_
            refine m_iconst C dX12_childOn_158 (by unfold in32; omega) ?_
            refine m_icmp_ne (tgt := 166) C dX12_childOn_159 (by decide) (fun c => ?_) (fun c => ?_)
            · have h := h.1 c
              refine m_iconst C dX12_childOn_166 (by unfold in32; omega) ?_
              refine m_icmp_eq (tgt := 172) C dX12_childOn_167 (by decide) (fun c => ?_) (fun c => absurd c (by decide))
              refine m_iload C dX12_childOn_172 rfl ?_
              refine m_if_eq (tgt := 208) C dX12_childOn_174 (by decide) (fun c => absurd c (by decide)) (fun c => ?_)
              refine m_aload_n C dX12_childOn_177 rfl ?_
              refine f_getA C dX12_childOn_178 fl_KilnBenchModel_147 rfl (by decide) (by decide) (by decide) (by decide) ?_
              refine m_iload_n C dX12_childOn_181 rfl ?_
              obtain ⟨hb, h⟩ := h
              refine f_iald C dX12_childOn_182 (m_arO (a := 0) (len := 176) rfl rfl) (by decide) hb ?_
              refine m_iconst C dX12_childOn_183 (by unfold in32; omega) ?_
              refine m_icmp_ne (tgt := 206) C dX12_childOn_184 (by decide) (fun c => ?_) (fun c => ?_)
              · have h := h.1 c
                refine m_iconst C dX12_childOn_206 (by unfold in32; omega) ?_
                exact f_zret C R rfl dX12_childOn_207 (by decide) h
              · have h := h.2 c
                refine m_aload_n C dX12_childOn_187 rfl ?_
                refine f_getA C dX12_childOn_188 fl_KilnBenchModel_153 rfl (by decide) (by decide) (by decide) (by decide) ?_
                refine m_iload_n C dX12_childOn_191 rfl ?_
                obtain ⟨hb, h⟩ := h
                refine f_iald C dX12_childOn_192 (m_arO (a := 0) (len := 176) rfl rfl) (by decide) hb ?_
                refine m_iconst C dX12_childOn_193 (by unfold in32; omega) ?_
                refine m_bipush C dX12_childOn_194 (by omega) ?_
                refine f_callSi (As := [vI (μ42 34 47 x1.toNat), vI 0, vI 99]) (st := []) C dX12_childOn_196 ml_KilnBenchModel_296 rfl rfl (Nat.le_of_ble_eq_true rfl) h (fun r44 μ43 h => ?_)
                refine m_if_eq (tgt := 206) C dX12_childOn_199 (by decide) (fun c => ?_) (fun c => ?_)
                · have h := h.1 c
                  refine m_iconst C dX12_childOn_206 (by unfold in32; omega) ?_
                  exact f_zret C R rfl dX12_childOn_207 (by decide) h
                · have h := h.2 c
                  refine m_iconst C dX12_childOn_202 (by unfold in32; omega) ?_
                  refine m_goto (tgt := 207) C dX12_childOn_203 (by decide) ?_
                  exact f_zret C R rfl dX12_childOn_207 (by decide) h
            · have h := h.2 c
              refine m_iconst C dX12_childOn_162 (by unfold in32; omega) ?_
              refine m_goto (tgt := 167) C dX12_childOn_163 (by decide) ?_
              refine m_icmp_eq (tgt := 172) C dX12_childOn_167 (by decide) (fun c => absurd c (by decide)) (fun c => ?_)
              refine m_iconst C dX12_childOn_170 (by unfold in32; omega) ?_
              exact f_zret C R rfl dX12_childOn_171 (by decide) h
          · have h := h.2 c
            refine m_iconst C dX12_childOn_147 (by unfold in32; omega) ?_
            refine m_goto (tgt := 152) C dX12_childOn_148 (by decide) ?_
            refine m_aload_n C dX12_childOn_152 rfl ?_
            refine f_getA C dX12_childOn_153 fl_KilnBenchModel_150 rfl (by decide) (by decide) (by decide) (by decide) ?_
            refine m_iload_n C dX12_childOn_156 rfl ?_
            obtain ⟨hb, h⟩ := h
            refine f_iald C dX12_childOn_157 (m_arO (a := 0) (len := 176) rfl rfl) (by decide) hb ?_
            refine m_iconst C dX12_childOn_158 (by unfold in32; omega) ?_
            refine m_icmp_ne (tgt := 166) C dX12_childOn_159 (by decide) (fun c => ?_) (fun c => ?_)
            · have h := h.1 c
              refine m_iconst C dX12_childOn_166 (by unfold in32; omega) ?_
              refine m_icmp_eq (tgt := 172) C dX12_childOn_167 (by decide) (fun c => absurd c (by decide)) (fun c => ?_)
              refine m_iconst C dX12_childOn_170 (by unfold in32; omega) ?_
              exact f_zret C R rfl dX12_childOn_171 (by decide) h
            · have h := h.2 c
              refine m_iconst C dX12_childOn_162 (by unfold in32; omega) ?_
              refine m_goto (tgt := 167) C dX12_childOn_163 (by decide) ?_
              refine m_icmp_eq (tgt := 172) C dX12_childOn_167 (by decide) (fun c => ?_) (fun c => absurd c (by decide))
              refine m_iload C dX12_childOn_172 rfl ?_
              refine m_if_eq (tgt := 208) C dX12_childOn_174 (by decide) (fun c => absurd c (by decide)) (fun c => ?_)
              refine m_aload_n C dX12_childOn_177 rfl ?_
              refine f_getA C dX12_childOn_178 fl_KilnBenchModel_147 rfl (by decide) (by decide) (by decide) (by decide) ?_
              refine m_iload_n C dX12_childOn_181 rfl ?_
              obtain ⟨hb, h⟩ := h
              refine f_iald C dX12_childOn_182 (m_arO (a := 0) (len := 176) rfl rfl) (by decide) hb ?_
              refine m_iconst C dX12_childOn_183 (by unfold in32; omega) ?_
              refine m_icmp_ne (tgt := 206) C dX12_childOn_184 (by decide) (fun c => ?_) (fun c => ?_)
              · have h := h.1 c
                refine m_iconst C dX12_childOn_206 (by unfold in32; omega) ?_
                exact f_zret C R rfl dX12_childOn_207 (by decide) h
              · have h := h.2 c
                refine m_aload_n C dX12_childOn_187 rfl ?_
                refine f_getA C dX12_childOn_188 fl_KilnBenchModel_153 rfl (by decide) (by decide) (by decide) (by decide) ?_
                refine m_iload_n C dX12_childOn_191 rfl ?_
                obtain ⟨hb, h⟩ := h
                refine f_iald C dX12_childOn_192 (m_arO (a := 0) (len := 176) rfl rfl) (by decide) hb ?_
                refine m_iconst C dX12_childOn_193 (by unfold in32; omega) ?_
                refine m_bipush C dX12_childOn_194 (by omega) ?_
                refine f_callSi (As := [vI (μ42 34 47 x1.toNat), vI 0, vI 99]) (st := []) C dX12_childOn_196 ml_KilnBenchModel_296 rfl rfl (Nat.le_of_ble_eq_true rfl) h (fun r46 μ45 h => ?_)
                refine m_if_eq (tgt := 206) C dX12_childOn_199 (by decide) (fun c => ?_) (fun c => ?_)
                · have h := h.1 c
                  refine m_iconst C dX12_childOn_206 (by unfold in32; omega) ?_
                  exact f_zret C R rfl dX12_childOn_207 (by decide) h
                · have h := h.2 c
                  refine m_iconst C dX12_childOn_202 (by unfold in32; omega) ?_
                  refine m_goto (tgt := 207) C dX12_childOn_203 (by decide) ?_
                  exact f_zret C R rfl dX12_childOn_207 (by decide) h
    · have h := h.2 c
      refine m_iconst C dX12_childOn_106 (by unfold in32; omega) ?_
      refine m_iload_n C dX12_childOn_107 rfl ?_
      refine m_ishl C dX12_childOn_108 ?_
      refine m_goto (tgt := 113) C dX12_childOn_109 (by decide) ?_
      refine m_ior C dX12_childOn_113 ?_
      refine f_iast C dX12_childOn_114 (m_arO (a := 0) (len := 22) rfl rfl) (by decide) (by decide) ?_
      refine n_mem (fun μ47 eμ47 => ?_)
      have h := h μ47 eμ47
      refine m_aload_n C dX12_childOn_115 rfl ?_
      refine f_getA C dX12_childOn_116 fl_KilnBenchModel_7 rfl (by decide) (by decide) (by decide) (by decide) ?_
      refine m_iload_n C dX12_childOn_119 rfl ?_
      obtain ⟨hb, h⟩ := h
      refine f_iald C dX12_childOn_120 (m_arO (a := 0) (len := 1800) rfl rfl) (by decide) hb ?_
      refine m_iconst C dX12_childOn_121 (by unfold in32; omega) ?_
      refine m_icmp_gt (tgt := 170) C dX12_childOn_122 (by decide) (fun c => ?_) (fun c => ?_)
      · have h := h.1 c
        refine m_iconst C dX12_childOn_170 (by unfold in32; omega) ?_
        exact f_zret C R rfl dX12_childOn_171 (by decide) h
      · have h := h.2 c
        refine m_aload_n C dX12_childOn_125 rfl ?_
        refine f_getA C dX12_childOn_126 fl_KilnBenchModel_7 rfl (by decide) (by decide) (by decide) (by decide) ?_
        refine m_iload_n C dX12_childOn_129 rfl ?_
        refine m_iconst C dX12_childOn_130 (by unfold in32; omega) ?_
        refine m_iadd C dX12_childOn_131 ?_
        obtain ⟨hb, h⟩ := h
        refine f_iald C dX12_childOn_132 (m_arO (a := 0) (len := 1800) rfl rfl) (by decide) hb ?_
        refine m_iconst C dX12_childOn_133 (by unfold in32; omega) ?_
        refine m_icmp_gt (tgt := 170) C dX12_childOn_134 (by decide) (fun c => ?_) (fun c => ?_)
        · have h := h.1 c
          refine m_iconst C dX12_childOn_170 (by unfold in32; omega) ?_
          exact f_zret C R rfl dX12_childOn_171 (by decide) h
        · have h := h.2 c
          refine m_aload_n C dX12_childOn_137 rfl ?_
          refine f_getA C dX12_childOn_138 fl_KilnBenchModel_147 rfl (by decide) (by decide) (by decide) (by decide) ?_
          refine m_iload_n C dX12_childOn_141 rfl ?_
          obtain ⟨hb, h⟩ := h
          refine f_iald C dX12_childOn_142 (m_arO (a := 0) (len := 176) rfl rfl) (by decide) hb ?_
          refine m_iconst C dX12_childOn_143 (by unfold in32; omega) ?_
          refine m_icmp_ne (tgt := 151) C dX12_childOn_144 (by decide) (fun c => ?_) (fun c => ?_)
          · have h := h.1 c
            refine m_iconst C dX12_childOn_151 (by unfold in32; omega) ?_
            refine m_aload_n C dX12_childOn_152 rfl ?_
            refine f_getA C dX12_childOn_153 fl_KilnBenchModel_150 rfl (by decide) (by decide) (by decide) (by decide) ?_
            refine m_iload_n C dX12_childOn_156 rfl ?_
            obtain ⟨hb, h⟩ := h
            refine f_iald C dX12_childOn_157 (m_arO (a := 0) (len := 176) rfl rfl) (by decide) hb ?_
            refine m_iconst C dX12_childOn_158 (by unfold in32; omega) ?_
            refine m_icmp_ne (tgt := 166) C dX12_childOn_159 (by decide) (fun c => ?_) (fun c => ?_)
            · have h := h.1 c
              refine m_iconst C dX12_childOn_166 (by unfold in32; omega) ?_
              refine m_icmp_eq (tgt := 172) C dX12_childOn_167 (by decide) (fun c => ?_) (fun c => absurd c (by decide))
              refine m_iload C dX12_childOn_172 rfl ?_
              refine m_if_eq (tgt := 208) C dX12_childOn_174 (by decide) (fun c => absurd c (by decide)) (fun c => ?_)
              refine m_aload_n C dX12_childOn_177 rfl ?_
              refine f_getA C dX12_childOn_178 fl_KilnBenchModel_147 rfl (by decide) (by decide) (by decide) (by decide) ?_
              refine m_iload_n C dX12_childOn_181 rfl ?_
              obtain ⟨hb, h⟩ := h
              refine f_iald C dX12_childOn_182 (m_arO (a := 0) (len := 176) rfl rfl) (by decide) hb ?_
              refine m_iconst C dX12_childOn_183 (by unfold in32; omega) ?_
              refine m_icmp_ne (tgt := 206) C dX12_childOn_184 (by decide) (fun c => ?_) (fun c => ?_)
              · have h := h.1 c
                refine m_iconst C dX12_childOn_206 (by unfold in32; omega) ?_
                exact f_zret C R rfl dX12_childOn_207 (by decide) h
              · have h := h.2 c
                refine m_aload_n C dX12_childOn_187 rfl ?_
                refine f_getA C dX12_childOn_188 fl_KilnBenchModel_153 rfl (by decide) (by decide) (by decide) (by decide) ?_
                refine m_iload_n C dX12_childOn_191 rfl ?_
                obtain ⟨hb, h⟩ := h
                refine f_iald C dX12_childOn_192 (m_arO (a := 0) (len := 176) rfl rfl) (by decide) hb ?_
                refine m_iconst C dX12_childOn_193 (by unfold in32; omega) ?_
                refine m_bipush C dX12_childOn_194 (by omega) ?_
                refine f_callSi (As := [vI (μ47 34 47 x1.toNat), vI 0, vI 99]) (st := []) C dX12_childOn_196 ml_KilnBenchModel_296 rfl rfl (Nat.le_of_ble_eq_true rfl) h (fun r49 μ48 h => ?_)
                refine m_if_eq (tgt := 206) C dX12_childOn_199 (by decide) (fun c => ?_) (fun c => ?_)
                · have h := h.1 c
                  refine m_iconst C dX12_childOn_206 (by unfold in32; omega) ?_
                  exact f_zret C R rfl dX12_childOn_207 (by decide) h
                · have h := h.2 c
                  refine m_iconst C dX12_childOn_202 (by unfold in32; omega) ?_
                  refine m_goto (tgt := 207) C dX12_childOn_203 (by decide) ?_
                  exact f_zret C R rfl dX12_childOn_207 (by decide) h
            · have h := h.2 c
              refine m_iconst C dX12_childOn_162 (by unfold in32; omega) ?_
              refine m_goto (tgt := 167) C dX12_childOn_163 (by decide) ?_
              refine m_icmp_eq (tgt := 172) C dX12_childOn_167 (by decide) (fun c => absurd c (by decide)) (fun c => ?_)
              refine m_iconst C dX12_childOn_170 (by unfold in32; omega) ?_
              exact f_zret C R rfl dX12_childOn_171 (by decide) h
          · have h := h.2 c
            refine m_iconst C dX12_childOn_147 (by unfold in32; omega) ?_
            refine m_goto (tgt := 152) C dX12_childOn_148 (by decide) ?_
            refine m_aload_n C dX12_childOn_152 rfl ?_
            refine f_getA C dX12_childOn_153 fl_KilnBenchModel_150 rfl (by decide) (by decide) (by decide) (by decide) ?_
            refine m_iload_n C dX12_childOn_156 rfl ?_
            obtain ⟨hb, h⟩ := h
            refine f_iald C dX12_childOn_157 (m_arO (a := 0) (len := 176) rfl rfl) (by decide) hb ?_
            refine m_iconst C dX12_childOn_158 (by unfold in32; omega) ?_
            refine m_icmp_ne (tgt := 166) C dX12_childOn_159 (by decide) (fun c => ?_) (fun c => ?_)
            · have h := h.1 c
              refine m_iconst C dX12_childOn_166 (by unfold in32; omega) ?_
              refine m_icmp_eq (tgt := 172) C dX12_childOn_167 (by decide) (fun c => absurd c (by decide)) (fun c => ?_)
              refine m_iconst C dX12_childOn_170 (by unfold in32; omega) ?_
              exact f_zret C R rfl dX12_childOn_171 (by decide) h
            · have h := h.2 c
              refine m_iconst C dX12_childOn_162 (by unfold in32; omega) ?_
              refine m_goto (tgt := 167) C dX12_childOn_163 (by decide) ?_
              refine m_icmp_eq (tgt := 172) C dX12_childOn_167 (by decide) (fun c => ?_) (fun c => absurd c (by decide))
              refine m_iload C dX12_childOn_172 rfl ?_
              refine m_if_eq (tgt := 208) C dX12_childOn_174 (by decide) (fun c => absurd c (by decide)) (fun c => ?_)
              refine m_aload_n C dX12_childOn_177 rfl ?_
              refine f_getA C dX12_childOn_178 fl_KilnBenchModel_147 rfl (by decide) (by decide) (by decide) (by decide) ?_
              refine m_iload_n C dX12_childOn_181 rfl ?_
              obtain ⟨hb, h⟩ := h
              refine f_iald C dX12_childOn_182 (m_arO (a := 0) (len := 176) rfl rfl) (by decide) hb ?_
              refine m_iconst C dX12_childOn_183 (by unfold in32; omega) ?_
              refine m_icmp_ne (tgt := 206) C dX12_childOn_184 (by decide) (fun c => ?_) (fun c => ?_)
              · have h := h.1 c
                refine m_iconst C dX12_childOn_206 (by unfold in32; omega) ?_
                exact f_zret C R rfl dX12_childOn_207 (by decide) h
              · have h := h.2 c
                refine m_aload_n C dX12_childOn_187 rfl ?_
                refine f_getA C dX12_childOn_188 fl_KilnBenchModel_153 rfl (by decide) (by decide) (by decide) (by decide) ?_
                refine m_iload_n C dX12_childOn_191 rfl ?_
                obtain ⟨hb, h⟩ := h
                refine f_iald C dX12_childOn_192 (m_arO (a := 0) (len := 176) rfl rfl) (by decide) hb ?_
                refine m_iconst C dX12_childOn_193 (by unfold in32; omega) ?_
                refine m_bipush C dX12_childOn_194 (by omega) ?_
                refine f_callSi (As := [vI (μ47 34 47 x1.toNat), vI 0, vI 99]) (st := []) C dX12_childOn_196 ml_KilnBenchModel_296 rfl rfl (Nat.le_of_ble_eq_true rfl) h (fun r51 μ50 h => ?_)
                refine m_if_eq (tgt := 206) C dX12_childOn_199 (by decide) (fun c => ?_) (fun c => ?_)
                · have h := h.1 c
                  refine m_iconst C dX12_childOn_206 (by unfold in32; omega) ?_
                  exact f_zret C R rfl dX12_childOn_207 (by decide) h
                · have h := h.2 c
                  refine m_iconst C dX12_childOn_202 (by unfold in32; omega) ?_
                  refine m_goto (tgt := 207) C dX12_childOn_203 (by decide) ?_
                  exact f_zret C R rfl dX12_childOn_207 (by decide) h

set_option maxRecDepth 20000 in
theorem VX12_childOn_275 {G : m_G} {X : m_X} {d : Nat} {K : Int → m_M → Prop} (C : mC G X YX12_childOn (d + 1)) (R : r_i G X K) {μ : m_M} {a1 : Int} {a2 : Int} {l3 : Int} {l4 : Int} {l5 : Int}
    (h : ((a1 ≤ l5) → K 1 μ) ∧ ((¬ a1 ≤ l5) → (0 ≤ l3 ∧ l3 < 176) ∧ ((μ 34 45 l3.toNat = (-1)) → ∀ x1 : Int, x1 = w32 (l5 + 1) → mW G X YX12_childOn μ 275 [some (vR 34 0), some (vI a1), some (vI a2), some (vI l3), some (vI l4), some (vI x1)] []) ∧ ((¬ μ 34 45 l3.toNat = (-1)) → (0 ≤ w32 (8 + l5) ∧ w32 (8 + l5) < 176) ∧ (0 ≤ l3 ∧ l3 < 176) ∧ ((¬ (μ 34 45 (w32 (8 + l5)).toNat) = (μ 34 45 l3.toNat)) → ∀ x2 : Int, x2 = w32 (l5 + 1) → mW G X YX12_childOn μ 275 [some (vR 34 0), some (vI a1), some (vI a2), some (vI l3), some (vI l4), some (vI x2)] []) ∧ ((μ 34 45 (w32 (8 + l5)).toNat = μ 34 45 l3.toNat) → (0 ≤ w32 (8 + l5) ∧ w32 (8 + l5) < 176) ∧ (0 ≤ l3 ∧ l3 < 176) ∧ ((¬ (μ 34 46 (w32 (8 + l5)).toNat) = (μ 34 46 l3.toNat)) → ∀ x3 : Int, x3 = w32 (l5 + 1) → mW G X YX12_childOn μ 275 [some (vR 34 0), some (vI a1), some (vI a2), some (vI l3), some (vI l4), some (vI x3)] []) ∧ ((μ 34 46 (w32 (8 + l5)).toNat = μ 34 46 l3.toNat) → K 0 μ))))) :
    mW G X YX12_childOn μ 275 [some (vR 34 0), some (vI a1), some (vI a2), some (vI l3), some (vI l4), some (vI l5)] [] := by
  refine m_iload C dX12_childOn_275 rfl ?_
  refine m_iload_n C dX12_childOn_277 rfl ?_
  refine m_icmp_ge (tgt := 337) C dX12_childOn_278 (by decide) (fun c => ?_) (fun c => ?_)
  · have h := h.1 c
    refine m_iconst C dX12_childOn_337 (by unfold in32; omega) ?_
    exact f_zret C R rfl dX12_childOn_338 (by decide) h
  · have h := h.2 c
    refine m_aload_n C dX12_childOn_281 rfl ?_
    refine f_getA C dX12_childOn_282 fl_KilnBenchModel_147 rfl (by decide) (by decide) (by decide) (by decide) ?_
    refine m_iload_n C dX12_childOn_285 rfl ?_
    obtain ⟨hb, h⟩ := h
    refine f_iald C dX12_childOn_286 (m_arO (a := 0) (len := 176) rfl rfl) (by decide) hb ?_
    refine m_iconst C dX12_childOn_287 (by unfold in32; omega) ?_
    refine m_icmp_eq (tgt := 331) C dX12_childOn_288 (by decide) (fun c => ?_) (fun c => ?_)
    · have h := h.1 c
      refine n_iinc (fun x1 => [some (vR 34 0), some (vI a1), some (vI a2), some (vI l3), some (vI l4), some (vI x1)]) C dX12_childOn_331 rfl (by decide) (fun _ => rfl) (fun x1 ex1 => ?_)
      have h := h x1 ex1
      refine m_goto (tgt := 275) C dX12_childOn_334 (by decide) ?_
      exact h
    · have h := h.2 c
      refine m_aload_n C dX12_childOn_291 rfl ?_
      refine f_getA C dX12_childOn_292 fl_KilnBenchModel_147 rfl (by decide) (by decide) (by decide) (by decide) ?_
      refine m_bipush C dX12_childOn_295 (by omega) ?_
      refine m_iload C dX12_childOn_297 rfl ?_
      refine m_iadd C dX12_childOn_299 ?_
      obtain ⟨hb, h⟩ := h
      refine f_iald C dX12_childOn_300 (m_arO (a := 0) (len := 176) rfl rfl) (by decide) hb ?_
      refine m_aload_n C dX12_childOn_301 rfl ?_
      refine f_getA C dX12_childOn_302 fl_KilnBenchModel_147 rfl (by decide) (by decide) (by decide) (by decide) ?_
      refine m_iload_n C dX12_childOn_305 rfl ?_
      obtain ⟨hb, h⟩ := h
      refine f_iald C dX12_childOn_306 (m_arO (a := 0) (len := 176) rfl rfl) (by decide) hb ?_
      refine m_icmp_ne (tgt := 331) C dX12_childOn_307 (by decide) (fun c => ?_) (fun c => ?_)
      · have h := h.1 c
        refine n_iinc (fun x2 => [some (vR 34 0), some (vI a1), some (vI a2), some (vI l3), some (vI l4), some (vI x2)]) C dX12_childOn_331 rfl (by decide) (fun _ => rfl) (fun x2 ex2 => ?_)
        have h := h x2 ex2
        refine m_goto (tgt := 275) C dX12_childOn_334 (by decide) ?_
        exact h
      · have h := h.2 c
        refine m_aload_n C dX12_childOn_310 rfl ?_
        refine f_getA C dX12_childOn_311 fl_KilnBenchModel_150 rfl (by decide) (by decide) (by decide) (by decide) ?_
        refine m_bipush C dX12_childOn_314 (by omega) ?_
        refine m_iload C dX12_childOn_316 rfl ?_
        refine m_iadd C dX12_childOn_318 ?_
        obtain ⟨hb, h⟩ := h
        refine f_iald C dX12_childOn_319 (m_arO (a := 0) (len := 176) rfl rfl) (by decide) hb ?_
        refine m_aload_n C dX12_childOn_320 rfl ?_
        refine f_getA C dX12_childOn_321 fl_KilnBenchModel_150 rfl (by decide) (by decide) (by decide) (by decide) ?_
        refine m_iload_n C dX12_childOn_324 rfl ?_
        obtain ⟨hb, h⟩ := h
        refine f_iald C dX12_childOn_325 (m_arO (a := 0) (len := 176) rfl rfl) (by decide) hb ?_
        refine m_icmp_ne (tgt := 331) C dX12_childOn_326 (by decide) (fun c => ?_) (fun c => ?_)
        · have h := h.1 c
          refine n_iinc (fun x3 => [some (vR 34 0), some (vI a1), some (vI a2), some (vI l3), some (vI l4), some (vI x3)]) C dX12_childOn_331 rfl (by decide) (fun _ => rfl) (fun x3 ex3 => ?_)
          have h := h x3 ex3
          refine m_goto (tgt := 275) C dX12_childOn_334 (by decide) ?_
          exact h
        · have h := h.2 c
          refine m_iconst C dX12_childOn_329 (by unfold in32; omega) ?_
          exact f_zret C R rfl dX12_childOn_330 (by decide) h

set_option maxRecDepth 20000 in
theorem VX12_areStuck_0 {G : m_G} {X : m_X} {d : Nat} {K : Int → m_M → Prop} (C : mC G X YX12_areStuck (d + 1)) (R : r_i G X K) {μ : m_M}
    (h : mW G X YX12_areStuck μ 2 [some (vR 34 0), some (vI 0), none] []) :
    mW G X YX12_areStuck μ 0 [some (vR 34 0), none, none] [] := by
  refine m_iconst C dX12_areStuck_0 (by unfold in32; omega) ?_
  refine o_istore_n [some (vR 34 0), some (vI 0), none] C dX12_areStuck_1 (by decide) rfl ?_
  exact h

set_option maxRecDepth 20000 in
theorem VX12_areStuck_2 {G : m_G} {X : m_X} {d : Nat} {K : Int → m_M → Prop} (C : mC G X YX12_areStuck (d + 1)) (R : r_i G X K) {μ : m_M} {l1 : Int}
    (h : (0 ≤ μ 34 0 13 ∧ μ 34 0 13 < 2) ∧ ((μ 34 15 (μ 34 0 13).toNat ≤ l1) → K 1 μ) ∧ ((¬ μ 34 15 (μ 34 0 13).toNat ≤ l1) → mW G X YX12_areStuck μ 17 [some (vR 34 0), some (vI l1), some (vI 0)] [])) :
    mW G X YX12_areStuck μ 2 [some (vR 34 0), some (vI l1), none] [] := by
  refine m_iload_n C dX12_areStuck_2 rfl ?_
  refine m_aload_n C dX12_areStuck_3 rfl ?_
  refine f_getA C dX12_areStuck_4 fl_KilnBenchModel_54 rfl (by decide) (by decide) (by decide) (by decide) ?_
  refine m_aload_n C dX12_areStuck_7 rfl ?_
  refine f_getI C dX12_areStuck_8 fl_KilnBenchModel_51 rfl (by decide) (by decide) ?_
  obtain ⟨hb, h⟩ := h
  refine f_iald C dX12_areStuck_11 (m_arO (a := 0) (len := 2) rfl rfl) (by decide) hb ?_
  refine m_icmp_ge (tgt := 98) C dX12_areStuck_12 (by decide) (fun c => ?_) (fun c => ?_)
  · have h := h.1 c
    refine m_iconst C dX12_areStuck_98 (by unfold in32; omega) ?_
    exact f_zret C R rfl dX12_areStuck_99 (by decide) h
  · have h := h.2 c
    refine m_iconst C dX12_areStuck_15 (by unfold in32; omega) ?_
    refine o_istore_n [some (vR 34 0), some (vI l1), some (vI 0)] C dX12_areStuck_16 (by decide) rfl ?_
    exact h

set_option maxRecDepth 20000 in
theorem VX12_areStuck_17 {G : m_G} {X : m_X} {d : Nat} {K : Int → m_M → Prop} (C : mC G X YX12_areStuck (d + 1)) (R : r_i G X K) {μ : m_M} {l1 : Int} {l2 : Int}
    (h : ((8 ≤ l2) → ∀ x1 : Int, x1 = w32 (l1 + 1) → mW G X YX12_areStuck μ 2 [some (vR 34 0), some (vI x1), none] []) ∧ ((¬ 8 ≤ l2) → (0 ≤ w32 (8 + l1) ∧ w32 (8 + l1) < 176) ∧ c_i G d YX12_has2 [vI (μ 34 48 (w32 (8 + l1)).toNat), vI l2] μ (fun r3 μ2 => ((¬ r3 = 0) → ((l1 = l2) → K 0 μ2) ∧ ((¬ l1 = l2) → c_i G d YX12_isChild [vR 34 0, vI l2] μ2 (fun r5 μ4 => ((r5 = 0) → K 0 μ4) ∧ ((¬ r5 = 0) → (0 ≤ w32 (8 + l2) ∧ w32 (8 + l2) < 176) ∧ ((μ4 34 47 (w32 (8 + l2)).toNat = (-1)) → K 0 μ4) ∧ ((¬ μ4 34 47 (w32 (8 + l2)).toNat = (-1)) → (0 ≤ w32 (8 + l2) ∧ w32 (8 + l2) < 176) ∧ c_i G d YX12_has2 [vI (μ4 34 48 (w32 (8 + l2)).toNat), vI l1] μ4 (fun r7 μ6 => ((¬ r7 = 0) → ∀ x8 : Int, x8 = w32 (l2 + 1) → mW G X YX12_areStuck μ6 17 [some (vR 34 0), some (vI l1), some (vI x8)] []) ∧ ((r7 = 0) → K 0 μ6))))))) ∧ ((r3 = 0) → ∀ x9 : Int, x9 = w32 (l2 + 1) → mW G X YX12_areStuck μ2 17 [some (vR 34 0), some (vI l1), some (vI x9)] [])))) :
    mW G X YX12_areStuck μ 17 [some (vR 34 0), some (vI l1), some (vI l2)] [] := by
  refine m_iload_n C dX12_areStuck_17 rfl ?_
  refine m_bipush C dX12_areStuck_18 (by omega) ?_
  refine m_icmp_ge (tgt := 92) C dX12_areStuck_20 (by decide) (fun c => ?_) (fun c => ?_)
  · have h := h.1 c
    refine n_iinc (fun x1 => [some (vR 34 0), some (vI x1), some (vI l2)]) C dX12_areStuck_92 rfl (by decide) (fun _ => rfl) (fun x1 ex1 => ?_)
    have h := h x1 ex1
    refine m_goto (tgt := 2) C dX12_areStuck_95 (by decide) ?_
    exact n_weak (le_same (le_same (le_none le_nil))) h
  · have h := h.2 c
    refine m_aload_n C dX12_areStuck_23 rfl ?_
    refine f_getA C dX12_areStuck_24 fl_KilnBenchModel_156 rfl (by decide) (by decide) (by decide) (by decide) ?_
    refine m_bipush C dX12_areStuck_27 (by omega) ?_
    refine m_iload_n C dX12_areStuck_29 rfl ?_
    refine m_iadd C dX12_areStuck_30 ?_
    obtain ⟨hb, h⟩ := h
    refine f_iald C dX12_areStuck_31 (m_arO (a := 0) (len := 176) rfl rfl) (by decide) hb ?_
    refine m_iload_n C dX12_areStuck_32 rfl ?_
    refine f_callSi (As := [vI (μ 34 48 (w32 (8 + l1)).toNat), vI l2]) (st := []) C dX12_areStuck_33 ml_KilnBenchModel_458 rfl rfl (Nat.le_of_ble_eq_true rfl) h (fun r3 μ2 h => ?_)
    refine m_if_ne (tgt := 42) C dX12_areStuck_36 (by decide) (fun c => ?_) (fun c => ?_)
    · have h := h.1 c
      refine m_iload_n C dX12_areStuck_42 rfl ?_
      refine m_iload_n C dX12_areStuck_43 rfl ?_
      refine m_icmp_eq (tgt := 84) C dX12_areStuck_44 (by decide) (fun c => ?_) (fun c => ?_)
      · have h := h.1 c
        refine m_iconst C dX12_areStuck_84 (by unfold in32; omega) ?_
        exact f_zret C R rfl dX12_areStuck_85 (by decide) h
      · have h := h.2 c
        refine m_aload_n C dX12_areStuck_47 rfl ?_
        refine m_iload_n C dX12_areStuck_48 rfl ?_
        refine f_callVi (As := [vI l2]) (st := []) C dX12_areStuck_49 ml_KilnBenchModel_453 rfl (by decide) rfl rfl rfl (Nat.le_of_ble_eq_true rfl) h (fun r5 μ4 h => ?_)
        refine m_if_eq (tgt := 84) C dX12_areStuck_52 (by decide) (fun c => ?_) (fun c => ?_)
        · have h := h.1 c
          refine m_iconst C dX12_areStuck_84 (by unfold in32; omega) ?_
          exact f_zret C R rfl dX12_areStuck_85 (by decide) h
        · have h := h.2 c
          refine m_aload_n C dX12_areStuck_55 rfl ?_
          refine f_getA C dX12_areStuck_56 fl_KilnBenchModel_153 rfl (by decide) (by decide) (by decide) (by decide) ?_
          refine m_bipush C dX12_areStuck_59 (by omega) ?_
          refine m_iload_n C dX12_areStuck_61 rfl ?_
          refine m_iadd C dX12_areStuck_62 ?_
          obtain ⟨hb, h⟩ := h
          refine f_iald C dX12_areStuck_63 (m_arO (a := 0) (len := 176) rfl rfl) (by decide) hb ?_
          refine m_iconst C dX12_areStuck_64 (by unfold in32; omega) ?_
          refine m_icmp_eq (tgt := 84) C dX12_areStuck_65 (by decide) (fun c => ?_) (fun c => ?_)
          · have h := h.1 c
            refine m_iconst C dX12_areStuck_84 (by unfold in32; omega) ?_
            exact f_zret C R rfl dX12_areStuck_85 (by decide) h
          · have h := h.2 c
            refine m_aload_n C dX12_areStuck_68 rfl ?_
            refine f_getA C dX12_areStuck_69 fl_KilnBenchModel_156 rfl (by decide) (by decide) (by decide) (by decide) ?_
            refine m_bipush C dX12_areStuck_72 (by omega) ?_
            refine m_iload_n C dX12_areStuck_74 rfl ?_
            refine m_iadd C dX12_areStuck_75 ?_
            obtain ⟨hb, h⟩ := h
            refine f_iald C dX12_areStuck_76 (m_arO (a := 0) (len := 176) rfl rfl) (by decide) hb ?_
            refine m_iload_n C dX12_areStuck_77 rfl ?_
            refine f_callSi (As := [vI (μ4 34 48 (w32 (8 + l2)).toNat), vI l1]) (st := []) C dX12_areStuck_78 ml_KilnBenchModel_458 rfl rfl (Nat.le_of_ble_eq_true rfl) h (fun r7 μ6 h => ?_)
            refine m_if_ne (tgt := 86) C dX12_areStuck_81 (by decide) (fun c => ?_) (fun c => ?_)
            · have h := h.1 c
              refine n_iinc (fun x8 => [some (vR 34 0), some (vI l1), some (vI x8)]) C dX12_areStuck_86 rfl (by decide) (fun _ => rfl) (fun x8 ex8 => ?_)
              have h := h x8 ex8
              refine m_goto (tgt := 17) C dX12_areStuck_89 (by decide) ?_
              exact h
            · have h := h.2 c
              refine m_iconst C dX12_areStuck_84 (by unfold in32; omega) ?_
              exact f_zret C R rfl dX12_areStuck_85 (by decide) h
    · have h := h.2 c
      refine m_goto (tgt := 86) C dX12_areStuck_39 (by decide) ?_
      refine n_iinc (fun x9 => [some (vR 34 0), some (vI l1), some (vI x9)]) C dX12_areStuck_86 rfl (by decide) (fun _ => rfl) (fun x9 ex9 => ?_)
      have h := h x9 ex9
      refine m_goto (tgt := 17) C dX12_areStuck_89 (by decide) ?_
      exact h

set_option maxRecDepth 20000 in
theorem VX12_comesOn_0 {G : m_G} {X : m_X} {d : Nat} {K : Int → m_M → Prop} (C : mC G X YX12_comesOn (d + 1)) (R : r_i G X K) {μ : m_M} {a1 : Int}
    (h : (0 ≤ μ 34 0 13 ∧ μ 34 0 13 < 2) ∧ ∀ x1 : Int, x1 = w32 (4 + (w32 (6 * (μ 34 15 (μ 34 0 13).toNat)))) → (0 ≤ μ 34 0 13 ∧ μ 34 0 13 < 2) ∧ ((¬ a1 = (w32 ((w32 (x1 + (μ 34 18 (μ 34 0 13).toNat))) + 1))) → K 0 μ) ∧ ((a1 = w32 ((w32 (x1 + (μ 34 18 (μ 34 0 13).toNat))) + 1)) → ((999 < i_or (i_shl (μ 34 1 0) 8) (μ 34 1 1)) → K 0 μ) ∧ ((¬ 999 < i_or (i_shl (μ 34 1 0) 8) (μ 34 1 1)) → ((i_or (i_shl (μ 34 1 2) 8) (μ 34 1 3) ≤ 9999) → mW G X YX12_comesOn μ 85 [some (vR 34 0), some (vI a1), some (vI x1), some (vI 241), some (vI 0)] []) ∧ ((¬ i_or (i_shl (μ 34 1 2) 8) (μ 34 1 3) ≤ 9999) → K 0 μ)))) :
    mW G X YX12_comesOn μ 0 [some (vR 34 0), some (vI a1), none, none, none] [] := by
  refine m_iconst C dX12_comesOn_0 (by unfold in32; omega) ?_
  refine m_bipush C dX12_comesOn_1 (by omega) ?_
  refine m_aload_n C dX12_comesOn_3 rfl ?_
  refine f_getA C dX12_comesOn_4 fl_KilnBenchModel_54 rfl (by decide) (by decide) (by decide) (by decide) ?_
  refine m_aload_n C dX12_comesOn_7 rfl ?_
  refine f_getI C dX12_comesOn_8 fl_KilnBenchModel_51 rfl (by decide) (by decide) ?_
  obtain ⟨hb, h⟩ := h
  refine f_iald C dX12_comesOn_11 (m_arO (a := 0) (len := 2) rfl rfl) (by decide) hb ?_
  refine m_imul C dX12_comesOn_12 ?_
  refine m_iadd C dX12_comesOn_13 ?_
  refine n_istore_n (fun x1 => [some (vR 34 0), some (vI a1), some (vI x1), none, none]) C dX12_comesOn_14 (by decide) (fun _ => rfl) (fun x1 ex1 => ?_)
  have h := h x1 ex1
  refine m_iload_n C dX12_comesOn_15 rfl ?_
  refine m_iload_n C dX12_comesOn_16 rfl ?_
  refine m_aload_n C dX12_comesOn_17 rfl ?_
  refine f_getA C dX12_comesOn_18 fl_KilnBenchModel_63 rfl (by decide) (by decide) (by decide) (by decide) ?_
  refine m_aload_n C dX12_comesOn_21 rfl ?_
  refine f_getI C dX12_comesOn_22 fl_KilnBenchModel_51 rfl (by decide) (by decide) ?_
  obtain ⟨hb, h⟩ := h
  refine f_iald C dX12_comesOn_25 (m_arO (a := 0) (len := 2) rfl rfl) (by decide) hb ?_
  refine m_iadd C dX12_comesOn_26 ?_
  refine m_iconst C dX12_comesOn_27 (by unfold in32; omega) ?_
  refine m_iadd C dX12_comesOn_28 ?_
  refine m_icmp_ne (tgt := 76) C dX12_comesOn_29 (by decide) (fun c => ?_) (fun c => ?_)
  · have h := h.1 c
    refine m_iconst C dX12_comesOn_76 (by unfold in32; omega) ?_
    exact f_zret C R rfl dX12_comesOn_77 (by decide) h
  · have h := h.2 c
    refine m_aload_n C dX12_comesOn_32 rfl ?_
    refine f_getA C dX12_comesOn_33 fl_KilnBenchModel_7 rfl (by decide) (by decide) (by decide) (by decide) ?_
    refine m_iconst C dX12_comesOn_36 (by unfold in32; omega) ?_
    refine f_iald C dX12_comesOn_37 (m_arO (a := 0) (len := 1800) rfl rfl) (by decide) (by decide) ?_
    refine m_bipush C dX12_comesOn_38 (by omega) ?_
    refine m_ishl C dX12_comesOn_40 ?_
    refine m_aload_n C dX12_comesOn_41 rfl ?_
    refine f_getA C dX12_comesOn_42 fl_KilnBenchModel_7 rfl (by decide) (by decide) (by decide) (by decide) ?_
    refine m_iconst C dX12_comesOn_45 (by unfold in32; omega) ?_
    refine f_iald C dX12_comesOn_46 (m_arO (a := 0) (len := 1800) rfl rfl) (by decide) (by decide) ?_
    refine m_ior C dX12_comesOn_47 ?_
    refine m_sipush C dX12_comesOn_48 (by omega) ?_
    refine m_icmp_gt (tgt := 76) C dX12_comesOn_51 (by decide) (fun c => ?_) (fun c => ?_)
    · have h := h.1 c
      refine m_iconst C dX12_comesOn_76 (by unfold in32; omega) ?_
      exact f_zret C R rfl dX12_comesOn_77 (by decide) h
    · have h := h.2 c
      refine m_aload_n C dX12_comesOn_54 rfl ?_
      refine f_getA C dX12_comesOn_55 fl_KilnBenchModel_7 rfl (by decide) (by decide) (by decide) (by decide) ?_
      refine m_iconst C dX12_comesOn_58 (by unfold in32; omega) ?_
      refine f_iald C dX12_comesOn_59 (m_arO (a := 0) (len := 1800) rfl rfl) (by decide) (by decide) ?_
      refine m_bipush C dX12_comesOn_60 (by omega) ?_
      refine m_ishl C dX12_comesOn_62 ?_
      refine m_aload_n C dX12_comesOn_63 rfl ?_
      refine f_getA C dX12_comesOn_64 fl_KilnBenchModel_7 rfl (by decide) (by decide) (by decide) (by decide) ?_
      refine m_iconst C dX12_comesOn_67 (by unfold in32; omega) ?_
      refine f_iald C dX12_comesOn_68 (m_arO (a := 0) (len := 1800) rfl rfl) (by decide) (by decide) ?_
      refine m_ior C dX12_comesOn_69 ?_
      refine m_sipush C dX12_comesOn_70 (by omega) ?_
      refine m_icmp_le (tgt := 78) C dX12_comesOn_73 (by decide) (fun c => ?_) (fun c => ?_)
      · have h := h.1 c
        refine m_sipush C dX12_comesOn_78 (by omega) ?_
        refine o_istore_n [some (vR 34 0), some (vI a1), some (vI x1), some (vI 241), none] C dX12_comesOn_81 (by decide) rfl ?_
        refine m_iconst C dX12_comesOn_82 (by unfold in32; omega) ?_
        refine o_istore [some (vR 34 0), some (vI a1), some (vI x1), some (vI 241), some (vI 0)] C dX12_comesOn_83 (by decide) rfl ?_
        exact h
      · have h := h.2 c
        refine m_iconst C dX12_comesOn_76 (by unfold in32; omega) ?_
        exact f_zret C R rfl dX12_comesOn_77 (by decide) h

set_option maxRecDepth 20000 in
theorem VX12_comesOn_85 {G : m_G} {X : m_X} {d : Nat} {K : Int → m_M → Prop} (C : mC G X YX12_comesOn (d + 1)) (R : r_i G X K) {μ : m_M} {a1 : Int} {l2 : Int} {l3 : Int} {l4 : Int}
    (h : ((w32 (a1 - 1) ≤ l4) → (0 ≤ w32 (a1 - 1) ∧ w32 (a1 - 1) < 1800) ∧ ((μ 34 1 (w32 (a1 - 1)).toNat = l3) → c_v G d YX12_copies [vR 34 0, vI 1, vI 0] μ (fun μ1 => ∀ μ2 : m_M, μ2 = m_up μ1 34 43 1 (i_or (i_shl (μ1 34 1 0) 8) (μ1 34 1 1)) → ∀ μ3 : m_M, μ3 = m_up μ2 34 44 1 (i_or (i_shl (μ2 34 1 2) 8) (μ2 34 1 3)) → ∀ μ4 : m_M, μ4 = m_up μ3 34 49 1 0 → ∀ μ5 : m_M, μ5 = m_up μ4 34 51 1 0 → mW G X YX12_comesOn μ5 196 [some (vR 34 0), some (vI a1), some (vI l2), some (vI l3), some (vI 0)] [])) ∧ ((¬ μ 34 1 (w32 (a1 - 1)).toNat = l3) → K 0 μ)) ∧ ((¬ w32 (a1 - 1) ≤ l4) → (0 ≤ l4 ∧ l4 < 1800) ∧ ∀ x7 : Int, x7 = (w32 ((w32 (5 * l3)) + (μ 34 1 l4.toNat))).tmod 251 → ∀ x8 : Int, x8 = w32 (l4 + 1) → mW G X YX12_comesOn μ 85 [some (vR 34 0), some (vI a1), some (vI l2), some (vI x7), some (vI x8)] [])) :
    mW G X YX12_comesOn μ 85 [some (vR 34 0), some (vI a1), some (vI l2), some (vI l3), some (vI l4)] [] := by
  refine m_iload C dX12_comesOn_85 rfl ?_
  refine m_iload_n C dX12_comesOn_87 rfl ?_
  refine m_iconst C dX12_comesOn_88 (by unfold in32; omega) ?_
  refine m_isub C dX12_comesOn_89 ?_
  refine m_icmp_ge (tgt := 115) C dX12_comesOn_90 (by decide) (fun c => ?_) (fun c => ?_)
  · have h := h.1 c
    refine m_aload_n C dX12_comesOn_115 rfl ?_
    refine f_getA C dX12_comesOn_116 fl_KilnBenchModel_7 rfl (by decide) (by decide) (by decide) (by decide) ?_
    refine m_iload_n C dX12_comesOn_119 rfl ?_
    refine m_iconst C dX12_comesOn_120 (by unfold in32; omega) ?_
    refine m_isub C dX12_comesOn_121 ?_
    obtain ⟨hb, h⟩ := h
    refine f_iald C dX12_comesOn_122 (m_arO (a := 0) (len := 1800) rfl rfl) (by decide) hb ?_
    refine m_iload_n C dX12_comesOn_123 rfl ?_
    refine m_icmp_eq (tgt := 129) C dX12_comesOn_124 (by decide) (fun c => ?_) (fun c => ?_)
    · have h := h.1 c
      refine m_aload_n C dX12_comesOn_129 rfl ?_
      refine m_iconst C dX12_comesOn_130 (by unfold in32; omega) ?_
      refine m_iconst C dX12_comesOn_131 (by unfold in32; omega) ?_
      refine f_callVv (As := [vI 1, vI 0]) (st := []) C dX12_comesOn_132 ml_KilnBenchModel_386 rfl (by decide) rfl rfl rfl (Nat.le_of_ble_eq_true rfl) h (fun μ1 h => ?_)
      refine m_aload_n C dX12_comesOn_135 rfl ?_
      refine f_getA C dX12_comesOn_136 fl_KilnBenchModel_141 rfl (by decide) (by decide) (by decide) (by decide) ?_
      refine m_iconst C dX12_comesOn_139 (by unfold in32; omega) ?_
      refine m_aload_n C dX12_comesOn_140 rfl ?_
      refine f_getA C dX12_comesOn_141 fl_KilnBenchModel_7 rfl (by decide) (by decide) (by decide) (by decide) ?_
      refine m_iconst C dX12_comesOn_144 (by unfold in32; omega) ?_
      refine f_iald C dX12_comesOn_145 (m_arO (a := 0) (len := 1800) rfl rfl) (by decide) (by decide) ?_
      refine m_bipush C dX12_comesOn_146 (by omega) ?_
      refine m_ishl C dX12_comesOn_148 ?_
      refine m_aload_n C dX12_comesOn_149 rfl ?_
      refine f_getA C dX12_comesOn_150 fl_KilnBenchModel_7 rfl (by decide) (by decide) (by decide) (by decide) ?_
      refine m_iconst C dX12_comesOn_153 (by unfold in32; omega) ?_
      refine f_iald C dX12_comesOn_154 (m_arO (a := 0) (len := 1800) rfl rfl) (by decide) (by decide) ?_
      refine m_ior C dX12_comesOn_155 ?_
      refine f_iast C dX12_comesOn_156 (m_arO (a := 0) (len := 22) rfl rfl) (by decide) (by decide) ?_
      refine n_mem (fun μ2 eμ2 => ?_)
      have h := h μ2 eμ2
      refine m_aload_n C dX12_comesOn_157 rfl ?_
      refine f_getA C dX12_comesOn_158 fl_KilnBenchModel_144 rfl (by decide) (by decide) (by decide) (by decide) ?_
      refine m_iconst C dX12_comesOn_161 (by unfold in32; omega) ?_
      refine m_aload_n C dX12_comesOn_162 rfl ?_
      refine f_getA C dX12_comesOn_163 fl_KilnBenchModel_7 rfl (by decide) (by decide) (by decide) (by decide) ?_
      refine m_iconst C dX12_comesOn_166 (by unfold in32; omega) ?_
      refine f_iald C dX12_comesOn_167 (m_arO (a := 0) (len := 1800) rfl rfl) (by decide) (by decide) ?_
      refine m_bipush C dX12_comesOn_168 (by omega) ?_
      refine m_ishl C dX12_comesOn_170 ?_
      refine m_aload_n C dX12_comesOn_171 rfl ?_
      refine f_getA C dX12_comesOn_172 fl_KilnBenchModel_7 rfl (by decide) (by decide) (by decide) (by decide) ?_
      refine m_iconst C dX12_comesOn_175 (by unfold in32; omega) ?_
      refine f_iald C dX12_comesOn_176 (m_arO (a := 0) (len := 1800) rfl rfl) (by decide) (by decide) ?_
      refine m_ior C dX12_comesOn_177 ?_
      refine f_iast C dX12_comesOn_178 (m_arO (a := 0) (len := 22) rfl rfl) (by decide) (by decide) ?_
      refine n_mem (fun μ3 eμ3 => ?_)
      have h := h μ3 eμ3
      refine m_aload_n C dX12_comesOn_179 rfl ?_
      refine f_getA C dX12_comesOn_180 fl_KilnBenchModel_159 rfl (by decide) (by decide) (by decide) (by decide) ?_
      refine m_iconst C dX12_comesOn_183 (by unfold in32; omega) ?_
      refine m_iconst C dX12_comesOn_184 (by unfold in32; omega) ?_
      refine f_iast C dX12_comesOn_185 (m_arO (a := 0) (len := 22) rfl rfl) (by decide) (by decide) ?_
      refine n_mem (fun μ4 eμ4 => ?_)
      have h := h μ4 eμ4
      refine m_aload_n C dX12_comesOn_186 rfl ?_
      refine f_getA C dX12_comesOn_187 fl_KilnBenchModel_165 rfl (by decide) (by decide) (by decide) (by decide) ?_
      refine m_iconst C dX12_comesOn_190 (by unfold in32; omega) ?_
      refine m_iconst C dX12_comesOn_191 (by unfold in32; omega) ?_
      refine f_iast C dX12_comesOn_192 (m_arO (a := 0) (len := 22) rfl rfl) (by decide) (by decide) ?_
      refine n_mem (fun μ5 eμ5 => ?_)
      have h := h μ5 eμ5
      refine m_iconst C dX12_comesOn_193 (by unfold in32; omega) ?_
      refine o_istore [some (vR 34 0), some (vI a1), some (vI l2), some (vI l3), some (vI 0)] C dX12_comesOn_194 (by decide) rfl ?_
      exact h
    · have h := h.2 c
      refine m_iconst C dX12_comesOn_127 (by unfold in32; omega) ?_
      exact f_zret C R rfl dX12_comesOn_128 (by decide) h
  · have h := h.2 c
    refine m_iconst C dX12_comesOn_93 (by unfold in32; omega) ?_
    refine m_iload_n C dX12_comesOn_94 rfl ?_
    refine m_imul C dX12_comesOn_95 ?_
    refine m_aload_n C dX12_comesOn_96 rfl ?_
    refine f_getA C dX12_comesOn_97 fl_KilnBenchModel_7 rfl (by decide) (by decide) (by decide) (by decide) ?_
    refine m_iload C dX12_comesOn_100 rfl ?_
    obtain ⟨hb, h⟩ := h
    refine f_iald C dX12_comesOn_102 (m_arO (a := 0) (len := 1800) rfl rfl) (by decide) hb ?_
    refine m_iadd C dX12_comesOn_103 ?_
    refine m_sipush C dX12_comesOn_104 (by omega) ?_
    refine m_irem C dX12_comesOn_107 (by decide) ?_
    refine n_istore_n (fun x7 => [some (vR 34 0), some (vI a1), some (vI l2), some (vI x7), some (vI l4)]) C dX12_comesOn_108 (by decide) (fun _ => rfl) (fun x7 ex7 => ?_)
    have h := h x7 ex7
    refine n_iinc (fun x8 => [some (vR 34 0), some (vI a1), some (vI l2), some (vI x7), some (vI x8)]) C dX12_comesOn_109 rfl (by decide) (fun _ => rfl) (fun x8 ex8 => ?_)
    have h := h x8 ex8
    refine m_goto (tgt := 85) C dX12_comesOn_112 (by decide) ?_
    exact h

set_option maxRecDepth 20000 in
theorem VX12_comesOn_196 {G : m_G} {X : m_X} {d : Nat} {K : Int → m_M → Prop} (C : mC G X YX12_comesOn (d + 1)) (R : r_i G X K) {μ : m_M} {a1 : Int} {l2 : Int} {l3 : Int} {l4 : Int}
    (h : (0 ≤ μ 34 0 13 ∧ μ 34 0 13 < 2) ∧ ((μ 34 15 (μ 34 0 13).toNat ≤ l4) → mW G X YX12_comesOn μ 237 [some (vR 34 0), some (vI a1), some (vI l2), some (vI l3), some (vI 0)] []) ∧ ((¬ μ 34 15 (μ 34 0 13).toNat ≤ l4) → c_i G d YX12_childOn [vR 34 0, vI l4, vI (w32 (4 + (w32 (6 * l4))))] μ (fun r3 μ2 => ((¬ r3 = 0) → ∀ x4 : Int, x4 = w32 (l4 + 1) → mW G X YX12_comesOn μ2 196 [some (vR 34 0), some (vI a1), some (vI l2), some (vI l3), some (vI x4)] []) ∧ ((r3 = 0) → K 0 μ2)))) :
    mW G X YX12_comesOn μ 196 [some (vR 34 0), some (vI a1), some (vI l2), some (vI l3), some (vI l4)] [] := by
  refine m_iload C dX12_comesOn_196 rfl ?_
  refine m_aload_n C dX12_comesOn_198 rfl ?_
  refine f_getA C dX12_comesOn_199 fl_KilnBenchModel_54 rfl (by decide) (by decide) (by decide) (by decide) ?_
  refine m_aload_n C dX12_comesOn_202 rfl ?_
  refine f_getI C dX12_comesOn_203 fl_KilnBenchModel_51 rfl (by decide) (by decide) ?_
  obtain ⟨hb, h⟩ := h
  refine f_iald C dX12_comesOn_206 (m_arO (a := 0) (len := 2) rfl rfl) (by decide) hb ?_
  refine m_icmp_ge (tgt := 234) C dX12_comesOn_207 (by decide) (fun c => ?_) (fun c => ?_)
  · have h := h.1 c
    refine m_iconst C dX12_comesOn_234 (by unfold in32; omega) ?_
    refine o_istore [some (vR 34 0), some (vI a1), some (vI l2), some (vI l3), some (vI 0)] C dX12_comesOn_235 (by decide) rfl ?_
    exact h
  · have h := h.2 c
    refine m_aload_n C dX12_comesOn_210 rfl ?_
    refine m_iload C dX12_comesOn_211 rfl ?_
    refine m_iconst C dX12_comesOn_213 (by unfold in32; omega) ?_
    refine m_bipush C dX12_comesOn_214 (by omega) ?_
    refine m_iload C dX12_comesOn_216 rfl ?_
    refine m_imul C dX12_comesOn_218 ?_
    refine m_iadd C dX12_comesOn_219 ?_
    refine f_callVi (As := [vI l4, vI (w32 (4 + (w32 (6 * l4))))]) (st := []) C dX12_comesOn_220 ml_KilnBenchModel_517 rfl (by decide) rfl rfl rfl (Nat.le_of_ble_eq_true rfl) h (fun r3 μ2 h => ?_)
    refine m_if_ne (tgt := 228) C dX12_comesOn_223 (by decide) (fun c => ?_) (fun c => ?_)
    · have h := h.1 c
      refine n_iinc (fun x4 => [some (vR 34 0), some (vI a1), some (vI l2), some (vI l3), some (vI x4)]) C dX12_comesOn_228 rfl (by decide) (fun _ => rfl) (fun x4 ex4 => ?_)
      have h := h x4 ex4
      refine m_goto (tgt := 196) C dX12_comesOn_231 (by decide) ?_
      exact h
    · have h := h.2 c
      refine m_iconst C dX12_comesOn_226 (by unfold in32; omega) ?_
      exact f_zret C R rfl dX12_comesOn_227 (by decide) h

set_option maxRecDepth 20000 in
theorem VX12_comesOn_237 {G : m_G} {X : m_X} {d : Nat} {K : Int → m_M → Prop} (C : mC G X YX12_comesOn (d + 1)) (R : r_i G X K) {μ : m_M} {a1 : Int} {l2 : Int} {l3 : Int} {l4 : Int}
    (h : (0 ≤ μ 34 0 13 ∧ μ 34 0 13 < 2) ∧ ((μ 34 18 (μ 34 0 13).toNat ≤ l4) → c_i G d YX12_areStuck [vR 34 0] μ (fun r2 μ1 => (r2 = 0 ∨ r2 = 1) ∧ K r2 μ1)) ∧ ((¬ μ 34 18 (μ 34 0 13).toNat ≤ l4) → (0 ≤ w32 (l2 + l4) ∧ w32 (l2 + l4) < 1800) ∧ ((μ 34 1 (w32 (l2 + l4)).toNat ≤ 20) → mW G X YX12_comesOn μ 282 [some (vR 34 0), some (vI a1), some (vI l2), some (vI l3), some (vI l4)] []) ∧ ((¬ μ 34 1 (w32 (l2 + l4)).toNat ≤ 20) → (0 ≤ w32 (l2 + l4) ∧ w32 (l2 + l4) < 1800) ∧ ((μ 34 1 (w32 (l2 + l4)).toNat = 255) → mW G X YX12_comesOn μ 282 [some (vR 34 0), some (vI a1), some (vI l2), some (vI l3), some (vI l4)] []) ∧ ((¬ μ 34 1 (w32 (l2 + l4)).toNat = 255) → K 0 μ)))) :
    mW G X YX12_comesOn μ 237 [some (vR 34 0), some (vI a1), some (vI l2), some (vI l3), some (vI l4)] [] := by
  refine m_iload C dX12_comesOn_237 rfl ?_
  refine m_aload_n C dX12_comesOn_239 rfl ?_
  refine f_getA C dX12_comesOn_240 fl_KilnBenchModel_63 rfl (by decide) (by decide) (by decide) (by decide) ?_
  refine m_aload_n C dX12_comesOn_243 rfl ?_
  refine f_getI C dX12_comesOn_244 fl_KilnBenchModel_51 rfl (by decide) (by decide) ?_
  obtain ⟨hb, h⟩ := h
  refine f_iald C dX12_comesOn_247 (m_arO (a := 0) (len := 2) rfl rfl) (by decide) hb ?_
  refine m_icmp_ge (tgt := 309) C dX12_comesOn_248 (by decide) (fun c => ?_) (fun c => ?_)
  · have h := h.1 c
    refine m_aload_n C dX12_comesOn_309 rfl ?_
    refine f_callVi (As := []) (st := []) C dX12_comesOn_310 ml_KilnBenchModel_520 rfl (by decide) rfl rfl rfl (Nat.le_of_ble_eq_true rfl) h (fun r2 μ1 h => ?_)
    exact f_zret C R rfl dX12_comesOn_313 h.1 h.2
  · have h := h.2 c
    refine m_aload_n C dX12_comesOn_251 rfl ?_
    refine f_getA C dX12_comesOn_252 fl_KilnBenchModel_7 rfl (by decide) (by decide) (by decide) (by decide) ?_
    refine m_iload_n C dX12_comesOn_255 rfl ?_
    refine m_iload C dX12_comesOn_256 rfl ?_
    refine m_iadd C dX12_comesOn_258 ?_
    obtain ⟨hb, h⟩ := h
    refine f_iald C dX12_comesOn_259 (m_arO (a := 0) (len := 1800) rfl rfl) (by decide) hb ?_
    refine m_bipush C dX12_comesOn_260 (by omega) ?_
    refine m_icmp_le (tgt := 282) C dX12_comesOn_262 (by decide) (fun c => ?_) (fun c => ?_)
    · have h := h.1 c
      exact h
    · have h := h.2 c
      refine m_aload_n C dX12_comesOn_265 rfl ?_
      refine f_getA C dX12_comesOn_266 fl_KilnBenchModel_7 rfl (by decide) (by decide) (by decide) (by decide) ?_
      refine m_iload_n C dX12_comesOn_269 rfl ?_
      refine m_iload C dX12_comesOn_270 rfl ?_
      refine m_iadd C dX12_comesOn_272 ?_
      obtain ⟨hb, h⟩ := h
      refine f_iald C dX12_comesOn_273 (m_arO (a := 0) (len := 1800) rfl rfl) (by decide) hb ?_
      refine m_sipush C dX12_comesOn_274 (by omega) ?_
      refine m_icmp_eq (tgt := 282) C dX12_comesOn_277 (by decide) (fun c => ?_) (fun c => ?_)
      · have h := h.1 c
        exact h
      · have h := h.2 c
        refine m_iconst C dX12_comesOn_280 (by unfold in32; omega) ?_
        exact f_zret C R rfl dX12_comesOn_281 (by decide) h

set_option maxRecDepth 20000 in
theorem VX12_comesOn_282 {G : m_G} {X : m_X} {d : Nat} {K : Int → m_M → Prop} (C : mC G X YX12_comesOn (d + 1)) (R : r_i G X K) {μ : m_M} {a1 : Int} {l2 : Int} {l3 : Int} {l4 : Int}
    (h : (0 ≤ w32 (l2 + l4) ∧ w32 (l2 + l4) < 1800) ∧ c_i G d YX12_orNone [vI (μ 34 1 (w32 (l2 + l4)).toNat)] μ (fun r2 μ1 => (0 ≤ w32 (3 + l4) ∧ w32 (3 + l4) < 66) ∧ ∀ μ3 : m_M, μ3 = m_up μ1 34 50 (w32 (3 + l4)).toNat r2 → ∀ x4 : Int, x4 = w32 (l4 + 1) → mW G X YX12_comesOn μ3 237 [some (vR 34 0), some (vI a1), some (vI l2), some (vI l3), some (vI x4)] [])) :
    mW G X YX12_comesOn μ 282 [some (vR 34 0), some (vI a1), some (vI l2), some (vI l3), some (vI l4)] [] := by
  refine m_aload_n C dX12_comesOn_282 rfl ?_
  refine f_getA C dX12_comesOn_283 fl_KilnBenchModel_162 rfl (by decide) (by decide) (by decide) (by decide) ?_
  refine m_iconst C dX12_comesOn_286 (by unfold in32; omega) ?_
  refine m_iload C dX12_comesOn_287 rfl ?_
  refine m_iadd C dX12_comesOn_289 ?_
  refine m_aload_n C dX12_comesOn_290 rfl ?_
  refine f_getA C dX12_comesOn_291 fl_KilnBenchModel_7 rfl (by decide) (by decide) (by decide) (by decide) ?_
  refine m_iload_n C dX12_comesOn_294 rfl ?_
  refine m_iload C dX12_comesOn_295 rfl ?_
  refine m_iadd C dX12_comesOn_297 ?_
  obtain ⟨hb, h⟩ := h
  refine f_iald C dX12_comesOn_298 (m_arO (a := 0) (len := 1800) rfl rfl) (by decide) hb ?_
  refine f_callSi (As := [vI (μ 34 1 (w32 (l2 + l4)).toNat)]) (st := [vI (w32 (3 + l4)), vR 34 50]) C dX12_comesOn_299 ml_KilnBenchModel_514 rfl rfl (Nat.le_of_ble_eq_true rfl) h (fun r2 μ1 h => ?_)
  obtain ⟨hb, h⟩ := h
  refine f_iast C dX12_comesOn_302 (m_arO (a := 0) (len := 66) rfl rfl) (by decide) hb ?_
  refine n_mem (fun μ3 eμ3 => ?_)
  have h := h μ3 eμ3
  refine n_iinc (fun x4 => [some (vR 34 0), some (vI a1), some (vI l2), some (vI l3), some (vI x4)]) C dX12_comesOn_303 rfl (by decide) (fun _ => rfl) (fun x4 ex4 => ?_)
  have h := h x4 ex4
  refine m_goto (tgt := 237) C dX12_comesOn_306 (by decide) ?_
  exact h

set_option maxRecDepth 20000 in
theorem VX12_on_0 {G : m_G} {X : m_X} {d : Nat} {K : Int → m_M → Prop} (C : mC G X YX12_on (d + 1)) (R : r_i G X K) {μ : m_M}
    (h : ∀ x1 : Int, x1 = μ 34 0 1 → ∀ μ2 : m_M, μ2 = m_up μ 34 0 1 0 → c_i G d YX12_comesOn [vR 34 0, vI x1] μ2 (fun r4 μ3 => ((¬ r4 = 0) → c_v G d YX12_copies [vR 34 0, vI 0, vI 1] μ3 (fun μ5 => ∀ μ6 : m_M, μ6 = m_up μ5 34 0 53 0 → K 1 μ6)) ∧ ((r4 = 0) → c_i G d YX12_refuses [vR 34 0, vI 5] μ3 (fun r8 μ7 => ((r8 < 0) → K 0 μ7) ∧ ((¬ r8 < 0) → K 1 μ7))))) :
    mW G X YX12_on μ 0 [some (vR 34 0), none] [] := by
  refine m_aload_n C dX12_on_0 rfl ?_
  refine f_getI C dX12_on_1 fl_KilnBenchModel_13 rfl (by decide) (by decide) ?_
  refine n_istore_n (fun x1 => [some (vR 34 0), some (vI x1)]) C dX12_on_4 (by decide) (fun _ => rfl) (fun x1 ex1 => ?_)
  have h := h x1 ex1
  refine m_aload_n C dX12_on_5 rfl ?_
  refine m_iconst C dX12_on_6 (by unfold in32; omega) ?_
  refine f_putI C dX12_on_7 fl_KilnBenchModel_13 rfl (by decide) (by decide) (by decide) ?_
  refine n_mem (fun μ2 eμ2 => ?_)
  have h := h μ2 eμ2
  refine m_aload_n C dX12_on_10 rfl ?_
  refine m_iload_n C dX12_on_11 rfl ?_
  refine f_callVi (As := [vI x1]) (st := []) C dX12_on_12 ml_KilnBenchModel_523 rfl (by decide) rfl rfl rfl (Nat.le_of_ble_eq_true rfl) h (fun r4 μ3 h => ?_)
  refine m_if_ne (tgt := 32) C dX12_on_15 (by decide) (fun c => ?_) (fun c => ?_)
  · have h := h.1 c
    refine m_aload_n C dX12_on_32 rfl ?_
    refine m_iconst C dX12_on_33 (by unfold in32; omega) ?_
    refine m_iconst C dX12_on_34 (by unfold in32; omega) ?_
    refine f_callVv (As := [vI 0, vI 1]) (st := []) C dX12_on_35 ml_KilnBenchModel_386 rfl (by decide) rfl rfl rfl (Nat.le_of_ble_eq_true rfl) h (fun μ5 h => ?_)
    refine m_aload_n C dX12_on_38 rfl ?_
    refine m_iconst C dX12_on_39 (by unfold in32; omega) ?_
    refine f_putI C dX12_on_40 fl_KilnBenchModel_174 rfl (by decide) (by decide) (by decide) ?_
    refine n_mem (fun μ6 eμ6 => ?_)
    have h := h μ6 eμ6
    refine m_iconst C dX12_on_43 (by unfold in32; omega) ?_
    exact f_zret C R rfl dX12_on_44 (by decide) h
  · have h := h.2 c
    refine m_aload_n C dX12_on_18 rfl ?_
    refine m_iconst C dX12_on_19 (by unfold in32; omega) ?_
    refine f_callVi (As := [vI 5]) (st := []) C dX12_on_20 ml_KilnBenchModel_216 rfl (by decide) rfl rfl rfl (Nat.le_of_ble_eq_true rfl) h (fun r8 μ7 h => ?_)
    refine m_if_lt (tgt := 30) C dX12_on_23 (by decide) (fun c => ?_) (fun c => ?_)
    · have h := h.1 c
      refine m_iconst C dX12_on_30 (by unfold in32; omega) ?_
      exact f_zret C R rfl dX12_on_31 (by decide) h
    · have h := h.2 c
      refine m_iconst C dX12_on_26 (by unfold in32; omega) ?_
      refine m_goto (tgt := 31) C dX12_on_27 (by decide) ?_
      exact f_zret C R rfl dX12_on_31 (by decide) h

