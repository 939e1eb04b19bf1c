set_option maxRecDepth 20000 in
theorem VX4_temperOf_0 {G : m_G} {X : m_X} {d : Nat} {K : Int → m_M → Prop} (C : mC G X YX4_temperOf (d + 1)) (R : r_i G X K) {μ : m_M} {a1 : Int} {a2 : Int} {a3 : Int} {a4 : Int}
    (h : ∃ t1 : Nat, μ 4 0 0 = 100 * (t1 : Int) ∧ m_cls t1 = 9 ∧ c_i G d YX10_hasFormula [vR t1 0, vI 261] μ (fun r3 μ2 => ((¬ r3 = 0) → c_v G d YX4_tellChild [vR 4 0, vI a1, vI a2, vI a3, vI a4] μ2 (fun μ4 => ∃ t5 : Nat, μ4 4 0 0 = 100 * (t5 : Int) ∧ m_cls t5 = 9 ∧ c_i G d YX5_valueOf [vR 5 0, vR t5 0, vI 261] μ4 (fun r7 μ6 => K (if 0 < (if r7 < 99 then r7 else 99) then (if r7 < 99 then r7 else 99) else 0) μ6))) ∧ ((r3 = 0) → K (if w32 (4 * a2) < 99 then w32 (4 * a2) else 99) μ2))) :
    mW G X YX4_temperOf μ 0 [some (vR 4 0), some (vI a1), some (vI a2), some (vI a3), some (vI a4), none] [] := by
  refine m_aload_n C dX4_temperOf_0 rfl ?_
  obtain ⟨t1, hx_t1, hc_t1, h⟩ := h
  refine f_getR (t := t1) (w := 0) C dX4_temperOf_1 fl_KilnBench_Laws_18 rfl (by decide) (by decide) (by rw [hx_t1]; omega) (by decide) (m_cls0 hc_t1 (by decide)) ?_
  refine m_sipush C dX4_temperOf_4 (by omega) ?_
  refine f_callVi (As := [vI 261]) (st := []) C dX4_temperOf_7 ml_KilnBench_Laws_24 hc_t1 (by decide) rfl rfl rfl (Nat.le_of_ble_eq_true rfl) h (fun r3 μ2 h => ?_)
  refine m_if_ne (tgt := 22) C dX4_temperOf_10 (by decide) (fun c => ?_) (fun c => ?_)
  · have h := h.1 c
    refine m_aload_n C dX4_temperOf_22 rfl ?_
    refine m_iload_n C dX4_temperOf_23 rfl ?_
    refine m_iload_n C dX4_temperOf_24 rfl ?_
    refine m_iload_n C dX4_temperOf_25 rfl ?_
    refine m_iload C dX4_temperOf_26 rfl ?_
    refine f_callVv (As := [vI a1, vI a2, vI a3, vI a4]) (st := []) C dX4_temperOf_28 ml_KilnBench_Laws_36 rfl (by decide) rfl rfl rfl (Nat.le_of_ble_eq_true rfl) h (fun μ4 h => ?_)
    refine m_aload_n C dX4_temperOf_31 rfl ?_
    refine f_getO (t := 5) C dX4_temperOf_32 fl_KilnBench_Laws_12 rfl (by decide) (by decide) (by decide) (by decide) ?_
    refine m_aload_n C dX4_temperOf_35 rfl ?_
    obtain ⟨t5, hx_t5, hc_t5, h⟩ := h
    refine f_getR (t := t5) (w := 0) C dX4_temperOf_36 fl_KilnBench_Laws_18 rfl (by decide) (by decide) (by rw [hx_t5]; omega) (by decide) (m_cls0 hc_t5 (by decide)) ?_
    refine m_sipush C dX4_temperOf_39 (by omega) ?_
    refine f_callVi (As := [vR t5 0, vI 261]) (st := []) C dX4_temperOf_42 ml_KilnBench_Laws_40 rfl (by decide) rfl rfl rfl (Nat.le_of_ble_eq_true rfl) h (fun r7 μ6 h => ?_)
    refine o_istore [some (vR 4 0), some (vI a1), some (vI a2), some (vI a3), some (vI a4), some (vI r7)] C dX4_temperOf_45 (by decide) rfl ?_
    refine m_iconst C dX4_temperOf_47 (by unfold in32; omega) ?_
    refine m_bipush C dX4_temperOf_48 (by omega) ?_
    refine m_iload C dX4_temperOf_50 rfl ?_
    refine m_mmin C dX4_temperOf_52 mi_KilnBench_Laws_30 mb_mmins mb_ini mb_mmin (Nat.le_of_ble_eq_true rfl) (Nat.le_refl _) (Nat.le_refl _) ?_
    refine m_mmax C dX4_temperOf_55 mi_KilnBench_Laws_44 mb_mmaxs mb_ini mb_mmax (Nat.le_of_ble_eq_true rfl) (Nat.le_refl _) (Nat.le_refl _) ?_
    exact f_iret C R rfl dX4_temperOf_58 h
  · have h := h.2 c
    refine m_bipush C dX4_temperOf_13 (by omega) ?_
    refine m_iconst C dX4_temperOf_15 (by unfold in32; omega) ?_
    refine m_iload_n C dX4_temperOf_16 rfl ?_
    refine m_imul C dX4_temperOf_17 ?_
    refine m_mmin C dX4_temperOf_18 mi_KilnBench_Laws_30 mb_mmins mb_ini mb_mmin (Nat.le_of_ble_eq_true rfl) (Nat.le_refl _) (Nat.le_refl _) ?_
    exact f_iret C R rfl dX4_temperOf_21 h

set_option maxRecDepth 20000 in
theorem VX4_isCracked_0 {G : m_G} {X : m_X} {d : Nat} {K : Int → m_M → Prop} (C : mC G X YX4_isCracked (d + 1)) (R : r_i G X K) {μ : m_M} {a1 : Int} {a2 : Int} {a3 : Int} {a4 : Int} {a5 : Int}
    (h : ∃ t1 : Nat, μ 4 0 0 = 100 * (t1 : Int) ∧ m_cls t1 = 9 ∧ c_i G d YX10_hasFormula [vR t1 0, vI 262] μ (fun r3 μ2 => ((¬ r3 = 0) → c_v G d YX4_tellChild [vR 4 0, vI a1, vI a2, vI a3, vI a4] μ2 (fun μ4 => c_v G d YX5_tell [vR 5 0, vI 271, vI a5] μ4 (fun μ5 => ∃ t6 : Nat, μ5 4 0 0 = 100 * (t6 : Int) ∧ m_cls t6 = 9 ∧ c_i G d YX5_valueOf [vR 5 0, vR t6 0, vI 262] μ5 (fun r8 μ7 => ((¬ r8 = 1) → K 0 μ7) ∧ ((r8 = 1) → K 1 μ7))))) ∧ ((r3 = 0) → K 0 μ2))) :
    mW G X YX4_isCracked μ 0 [some (vR 4 0), some (vI a1), some (vI a2), some (vI a3), some (vI a4), some (vI a5)] [] := by
  refine m_aload_n C dX4_isCracked_0 rfl ?_
  obtain ⟨t1, hx_t1, hc_t1, h⟩ := h
  refine f_getR (t := t1) (w := 0) C dX4_isCracked_1 fl_KilnBench_Laws_18 rfl (by decide) (by decide) (by rw [hx_t1]; omega) (by decide) (m_cls0 hc_t1 (by decide)) ?_
  refine m_sipush C dX4_isCracked_4 (by omega) ?_
  refine f_callVi (As := [vI 262]) (st := []) C dX4_isCracked_7 ml_KilnBench_Laws_24 hc_t1 (by decide) rfl rfl rfl (Nat.le_of_ble_eq_true rfl) h (fun r3 μ2 h => ?_)
  refine m_if_ne (tgt := 15) C dX4_isCracked_10 (by decide) (fun c => ?_) (fun c => ?_)
  · have h := h.1 c
    refine m_aload_n C dX4_isCracked_15 rfl ?_
    refine m_iload_n C dX4_isCracked_16 rfl ?_
    refine m_iload_n C dX4_isCracked_17 rfl ?_
    refine m_iload_n C dX4_isCracked_18 rfl ?_
    refine m_iload C dX4_isCracked_19 rfl ?_
    refine f_callVv (As := [vI a1, vI a2, vI a3, vI a4]) (st := []) C dX4_isCracked_21 ml_KilnBench_Laws_36 rfl (by decide) rfl rfl rfl (Nat.le_of_ble_eq_true rfl) h (fun μ4 h => ?_)
    refine m_aload_n C dX4_isCracked_24 rfl ?_
    refine f_getO (t := 5) C dX4_isCracked_25 fl_KilnBench_Laws_12 rfl (by decide) (by decide) (by decide) (by decide) ?_
    refine m_sipush C dX4_isCracked_28 (by omega) ?_
    refine m_iload C dX4_isCracked_31 rfl ?_
    refine f_callVv (As := [vI 271, vI a5]) (st := []) C dX4_isCracked_33 ml_KilnBench_Laws_47 rfl (by decide) rfl rfl rfl (Nat.le_of_ble_eq_true rfl) h (fun μ5 h => ?_)
    refine m_aload_n C dX4_isCracked_36 rfl ?_
    refine f_getO (t := 5) C dX4_isCracked_37 fl_KilnBench_Laws_12 rfl (by decide) (by decide) (by decide) (by decide) ?_
    refine m_aload_n C dX4_isCracked_40 rfl ?_
    obtain ⟨t6, hx_t6, hc_t6, h⟩ := h
    refine f_getR (t := t6) (w := 0) C dX4_isCracked_41 fl_KilnBench_Laws_18 rfl (by decide) (by decide) (by rw [hx_t6]; omega) (by decide) (m_cls0 hc_t6 (by decide)) ?_
    refine m_sipush C dX4_isCracked_44 (by omega) ?_
    refine f_callVi (As := [vR t6 0, vI 262]) (st := []) C dX4_isCracked_47 ml_KilnBench_Laws_40 rfl (by decide) rfl rfl rfl (Nat.le_of_ble_eq_true rfl) h (fun r8 μ7 h => ?_)
    refine m_iconst C dX4_isCracked_50 (by unfold in32; omega) ?_
    refine m_icmp_ne (tgt := 58) C dX4_isCracked_51 (by decide) (fun c => ?_) (fun c => ?_)
    · have h := h.1 c
      refine m_iconst C dX4_isCracked_58 (by unfold in32; omega) ?_
      exact f_zret C R rfl dX4_isCracked_59 (by decide) h
    · have h := h.2 c
      refine m_iconst C dX4_isCracked_54 (by unfold in32; omega) ?_
      refine m_goto (tgt := 59) C dX4_isCracked_55 (by decide) ?_
      exact f_zret C R rfl dX4_isCracked_59 (by decide) h
  · have h := h.2 c
    refine m_iconst C dX4_isCracked_13 (by unfold in32; omega) ?_
    exact f_zret C R rfl dX4_isCracked_14 (by decide) h

set_option maxRecDepth 20000 in
theorem VX4_tellChild_0 {G : m_G} {X : m_X} {d : Nat} {K : m_M → Prop} (C : mC G X YX4_tellChild (d + 1)) (R : r_v G X K) {μ : m_M} {a1 : Int} {a2 : Int} {a3 : Int} {a4 : Int}
    (h : c_v G d YX5_tell [vR 5 0, vI 268, vI a2] μ (fun μ1 => c_v G d YX5_tell [vR 5 0, vI 269, vI a4] μ1 (fun μ2 => ∃ t3 : Nat, μ2 4 0 0 = 100 * (t3 : Int) ∧ m_cls t3 = 9 ∧ (0 ≤ a1 ∧ a1 < 8) ∧ c_v G d YX5_tell [vR 5 0, vI 257, vI (μ2 t3 2 a1.toNat)] μ2 (fun μ4 => ∃ t5 : Nat, μ4 4 0 0 = 100 * (t5 : Int) ∧ m_cls t5 = 9 ∧ (0 ≤ a1 ∧ a1 < 8) ∧ c_v G d YX5_tell [vR 5 0, vI 258, vI (μ4 t5 3 a1.toNat)] μ4 (fun μ6 => c_v G d YX5_tell [vR 5 0, vI 270, vI a3] μ6 (fun μ7 => K μ7)))))) :
    mW G X YX4_tellChild μ 0 [some (vR 4 0), some (vI a1), some (vI a2), some (vI a3), some (vI a4)] [] := by
  refine m_aload_n C dX4_tellChild_0 rfl ?_
  refine f_getO (t := 5) C dX4_tellChild_1 fl_KilnBench_Laws_12 rfl (by decide) (by decide) (by decide) (by decide) ?_
  refine m_sipush C dX4_tellChild_4 (by omega) ?_
  refine m_iload_n C dX4_tellChild_7 rfl ?_
  refine f_callVv (As := [vI 268, vI a2]) (st := []) C dX4_tellChild_8 ml_KilnBench_Laws_47 rfl (by decide) rfl rfl rfl (Nat.le_of_ble_eq_true rfl) h (fun μ1 h => ?_)
  refine m_aload_n C dX4_tellChild_11 rfl ?_
  refine f_getO (t := 5) C dX4_tellChild_12 fl_KilnBench_Laws_12 rfl (by decide) (by decide) (by decide) (by decide) ?_
  refine m_sipush C dX4_tellChild_15 (by omega) ?_
  refine m_iload C dX4_tellChild_18 rfl ?_
  refine f_callVv (As := [vI 269, vI a4]) (st := []) C dX4_tellChild_20 ml_KilnBench_Laws_47 rfl (by decide) rfl rfl rfl (Nat.le_of_ble_eq_true rfl) h (fun μ2 h => ?_)
  refine m_aload_n C dX4_tellChild_23 rfl ?_
  refine f_getO (t := 5) C dX4_tellChild_24 fl_KilnBench_Laws_12 rfl (by decide) (by decide) (by decide) (by decide) ?_
  refine m_sipush C dX4_tellChild_27 (by omega) ?_
  refine m_aload_n C dX4_tellChild_30 rfl ?_
  obtain ⟨t3, hx_t3, hc_t3, h⟩ := h
  refine f_getR (t := t3) (w := 0) C dX4_tellChild_31 fl_KilnBench_Laws_18 rfl (by decide) (by decide) (by rw [hx_t3]; omega) (by decide) (m_cls0 hc_t3 (by decide)) ?_
  refine f_getA C dX4_tellChild_34 fl_KilnBench_Laws_51 hc_t3 (by decide) (by decide) (by decide) (by decide) ?_
  refine m_iload_n C dX4_tellChild_37 rfl ?_
  obtain ⟨hb, h⟩ := h
  refine f_iald C dX4_tellChild_38 (m_arO (a := 0) (len := 8) hc_t3 rfl) (by decide) hb ?_
  refine f_callVv (As := [vI 257, vI (μ2 t3 2 a1.toNat)]) (st := []) C dX4_tellChild_39 ml_KilnBench_Laws_47 rfl (by decide) rfl rfl rfl (Nat.le_of_ble_eq_true rfl) h (fun μ4 h => ?_)
  refine m_aload_n C dX4_tellChild_42 rfl ?_
  refine f_getO (t := 5) C dX4_tellChild_43 fl_KilnBench_Laws_12 rfl (by decide) (by decide) (by decide) (by decide) ?_
  refine m_sipush C dX4_tellChild_46 (by omega) ?_
  refine m_aload_n C dX4_tellChild_49 rfl ?_
  obtain ⟨t5, hx_t5, hc_t5, h⟩ := h
  refine f_getR (t := t5) (w := 0) C dX4_tellChild_50 fl_KilnBench_Laws_18 rfl (by decide) (by decide) (by rw [hx_t5]; omega) (by decide) (m_cls0 hc_t5 (by decide)) ?_
  refine f_getA C dX4_tellChild_53 fl_KilnBench_Laws_55 hc_t5 (by decide) (by decide) (by decide) (by decide) ?_
  refine m_iload_n C dX4_tellChild_56 rfl ?_
  obtain ⟨hb, h⟩ := h
  refine f_iald C dX4_tellChild_57 (m_arO (a := 0) (len := 8) hc_t5 rfl) (by decide) hb ?_
  refine f_callVv (As := [vI 258, vI (μ4 t5 3 a1.toNat)]) (st := []) C dX4_tellChild_58 ml_KilnBench_Laws_47 rfl (by decide) rfl rfl rfl (Nat.le_of_ble_eq_true rfl) h (fun μ6 h => ?_)
  refine m_aload_n C dX4_tellChild_61 rfl ?_
  refine f_getO (t := 5) C dX4_tellChild_62 fl_KilnBench_Laws_12 rfl (by decide) (by decide) (by decide) (by decide) ?_
  refine m_sipush C dX4_tellChild_65 (by omega) ?_
  refine m_iload_n C dX4_tellChild_68 rfl ?_
  refine f_callVv (As := [vI 270, vI a3]) (st := []) C dX4_tellChild_69 ml_KilnBench_Laws_47 rfl (by decide) rfl rfl rfl (Nat.le_of_ble_eq_true rfl) h (fun μ7 h => ?_)
  exact f_vret C R rfl dX4_tellChild_72 h

set_option maxRecDepth 20000 in
theorem VX4_isStuck_0 {G : m_G} {X : m_X} {d : Nat} {K : Int → m_M → Prop} (C : mC G X YX4_isStuck (d + 1)) (R : r_i G X K) {μ : m_M} {a1 : Int} {a2 : Int} {a3 : Int} {a4 : Int} {a5 : Int}
    (h : ∃ t1 : Nat, μ 4 0 0 = 100 * (t1 : Int) ∧ m_cls t1 = 9 ∧ c_i G d YX10_hasFormula [vR t1 0, vI 263] μ (fun r3 μ2 => ((¬ r3 = 0) → c_v G d YX5_tell [vR 5 0, vI 268, vI a4] μ2 (fun μ4 => c_v G d YX5_tell [vR 5 0, vI 269, vI a5] μ4 (fun μ5 => c_v G d YX5_tell [vR 5 0, vI 272, vI (if 0 ≤ a3 then a3 else w32 (0 - a3))] μ5 (fun μ6 => ∃ t7 : Nat, μ6 4 0 0 = 100 * (t7 : Int) ∧ m_cls t7 = 9 ∧ (0 ≤ a1 ∧ a1 < 8) ∧ ∃ t8 : Nat, μ6 4 0 0 = 100 * (t8 : Int) ∧ m_cls t8 = 9 ∧ (0 ≤ a2 ∧ a2 < 8) ∧ c_v G d YX5_tell [vR 5 0, vI 273, vI (w32 ((μ6 t7 3 a1.toNat) + (μ6 t8 3 a2.toNat)))] μ6 (fun μ9 => ∃ t10 : Nat, μ9 4 0 0 = 100 * (t10 : Int) ∧ m_cls t10 = 9 ∧ c_i G d YX5_valueOf [vR 5 0, vR t10 0, vI 263] μ9 (fun r12 μ11 => ((¬ r12 = 1) → K 0 μ11) ∧ ((r12 = 1) → K 1 μ11))))))) ∧ ((r3 = 0) → K 0 μ2))) :
    mW G X YX4_isStuck μ 0 [some (vR 4 0), some (vI a1), some (vI a2), some (vI a3), some (vI a4), some (vI a5)] [] := by
  refine m_aload_n C dX4_isStuck_0 rfl ?_
  obtain ⟨t1, hx_t1, hc_t1, h⟩ := h
  refine f_getR (t := t1) (w := 0) C dX4_isStuck_1 fl_KilnBench_Laws_18 rfl (by decide) (by decide) (by rw [hx_t1]; omega) (by decide) (m_cls0 hc_t1 (by decide)) ?_
  refine m_sipush C dX4_isStuck_4 (by omega) ?_
  refine f_callVi (As := [vI 263]) (st := []) C dX4_isStuck_7 ml_KilnBench_Laws_24 hc_t1 (by decide) rfl rfl rfl (Nat.le_of_ble_eq_true rfl) h (fun r3 μ2 h => ?_)
  refine m_if_ne (tgt := 15) C dX4_isStuck_10 (by decide) (fun c => ?_) (fun c => ?_)
  · have h := h.1 c
    refine m_aload_n C dX4_isStuck_15 rfl ?_
    refine f_getO (t := 5) C dX4_isStuck_16 fl_KilnBench_Laws_12 rfl (by decide) (by decide) (by decide) (by decide) ?_
    refine m_sipush C dX4_isStuck_19 (by omega) ?_
    refine m_iload C dX4_isStuck_22 rfl ?_
    refine f_callVv (As := [vI 268, vI a4]) (st := []) C dX4_isStuck_24 ml_KilnBench_Laws_47 rfl (by decide) rfl rfl rfl (Nat.le_of_ble_eq_true rfl) h (fun μ4 h => ?_)
    refine m_aload_n C dX4_isStuck_27 rfl ?_
    refine f_getO (t := 5) C dX4_isStuck_28 fl_KilnBench_Laws_12 rfl (by decide) (by decide) (by decide) (by decide) ?_
    refine m_sipush C dX4_isStuck_31 (by omega) ?_
    refine m_iload C dX4_isStuck_34 rfl ?_
    refine f_callVv (As := [vI 269, vI a5]) (st := []) C dX4_isStuck_36 ml_KilnBench_Laws_47 rfl (by decide) rfl rfl rfl (Nat.le_of_ble_eq_true rfl) h (fun μ5 h => ?_)
    refine m_aload_n C dX4_isStuck_39 rfl ?_
    refine f_getO (t := 5) C dX4_isStuck_40 fl_KilnBench_Laws_12 rfl (by decide) (by decide) (by decide) (by decide) ?_
    refine m_sipush C dX4_isStuck_43 (by omega) ?_
    refine m_iload_n C dX4_isStuck_46 rfl ?_
    refine m_mabs C dX4_isStuck_47 mi_KilnBench_Laws_58 mb_mabss mb_ini mb_mabs (Nat.le_of_ble_eq_true rfl) (Nat.le_refl _) (Nat.le_refl _) ?_
    refine f_callVv (As := [vI 272, vI (if 0 ≤ a3 then a3 else w32 (0 - a3))]) (st := []) C dX4_isStuck_50 ml_KilnBench_Laws_47 rfl (by decide) rfl rfl rfl (Nat.le_of_ble_eq_true rfl) h (fun μ6 h => ?_)
    refine m_aload_n C dX4_isStuck_53 rfl ?_
    refine f_getO (t := 5) C dX4_isStuck_54 fl_KilnBench_Laws_12 rfl (by decide) (by decide) (by decide) (by decide) ?_
    refine m_sipush C dX4_isStuck_57 (by omega) ?_
    refine m_aload_n C dX4_isStuck_60 rfl ?_
    obtain ⟨t7, hx_t7, hc_t7, h⟩ := h
    refine f_getR (t := t7) (w := 0) C dX4_isStuck_61 fl_KilnBench_Laws_18 rfl (by decide) (by decide) (by rw [hx_t7]; omega) (by decide) (m_cls0 hc_t7 (by decide)) ?_
    refine f_getA C dX4_isStuck_64 fl_KilnBench_Laws_55 hc_t7 (by decide) (by decide) (by decide) (by decide) ?_
    refine m_iload_n C dX4_isStuck_67 rfl ?_
    obtain ⟨hb, h⟩ := h
    refine f_iald C dX4_isStuck_68 (m_arO (a := 0) (len := 8) hc_t7 rfl) (by decide) hb ?_
    refine m_aload_n C dX4_isStuck_69 rfl ?_
    obtain ⟨t8, hx_t8, hc_t8, h⟩ := h
    refine f_getR (t := t8) (w := 0) C dX4_isStuck_70 fl_KilnBench_Laws_18 rfl (by decide) (by decide) (by rw [hx_t8]; omega) (by decide) (m_cls0 hc_t8 (by decide)) ?_
    refine f_getA C dX4_isStuck_73 fl_KilnBench_Laws_55 hc_t8 (by decide) (by decide) (by decide) (by decide) ?_
    refine m_iload_n C dX4_isStuck_76 rfl ?_
    obtain ⟨hb, h⟩ := h
    refine f_iald C dX4_isStuck_77 (m_arO (a := 0) (len := 8) hc_t8 rfl) (by decide) hb ?_
    refine m_iadd C dX4_isStuck_78 ?_
    refine f_callVv (As := [vI 273, vI (w32 ((μ6 t7 3 a1.toNat) + (μ6 t8 3 a2.toNat)))]) (st := []) C dX4_isStuck_79 ml_KilnBench_Laws_47 rfl (by decide) rfl rfl rfl (Nat.le_of_ble_eq_true rfl) h (fun μ9 h => ?_)
    refine m_aload_n C dX4_isStuck_82 rfl ?_
    refine f_getO (t := 5) C dX4_isStuck_83 fl_KilnBench_Laws_12 rfl (by decide) (by decide) (by decide) (by decide) ?_
    refine m_aload_n C dX4_isStuck_86 rfl ?_
    obtain ⟨t10, hx_t10, hc_t10, h⟩ := h
    refine f_getR (t := t10) (w := 0) C dX4_isStuck_87 fl_KilnBench_Laws_18 rfl (by decide) (by decide) (by rw [hx_t10]; omega) (by decide) (m_cls0 hc_t10 (by decide)) ?_
    refine m_sipush C dX4_isStuck_90 (by omega) ?_
    refine f_callVi (As := [vR t10 0, vI 263]) (st := []) C dX4_isStuck_93 ml_KilnBench_Laws_40 rfl (by decide) rfl rfl rfl (Nat.le_of_ble_eq_true rfl) h (fun r12 μ11 h => ?_)
    refine m_iconst C dX4_isStuck_96 (by unfold in32; omega) ?_
    refine m_icmp_ne (tgt := 104) C dX4_isStuck_97 (by decide) (fun c => ?_) (fun c => ?_)
    · have h := h.1 c
      refine m_iconst C dX4_isStuck_104 (by unfold in32; omega) ?_
      exact f_zret C R rfl dX4_isStuck_105 (by decide) h
    · have h := h.2 c
      refine m_iconst C dX4_isStuck_100 (by unfold in32; omega) ?_
      refine m_goto (tgt := 105) C dX4_isStuck_101 (by decide) ?_
      exact f_zret C R rfl dX4_isStuck_105 (by decide) h
  · have h := h.2 c
    refine m_iconst C dX4_isStuck_13 (by unfold in32; omega) ?_
    exact f_zret C R rfl dX4_isStuck_14 (by decide) h

set_option maxRecDepth 20000 in
theorem VX4_burnt_0 {G : m_G} {X : m_X} {d : Nat} {K : Int → m_M → Prop} (C : mC G X YX4_burnt (d + 1)) (R : r_i G X K) {μ : m_M} {a1 : Nat} {a2 : Int} (hc_a1 : m_cls a1 = 0)
    (h : (0 ≤ a2 ∧ a2 < 3) ∧ ∀ x1 : Int, x1 = μ a1 8 a2.toNat → ∃ t2 : Nat, μ 4 0 0 = 100 * (t2 : Int) ∧ m_cls t2 = 9 ∧ c_i G d YX10_hasFormula [vR t2 0, vI 264] μ (fun r4 μ3 => ((¬ r4 = 0) → c_v G d YX5_tell [vR 5 0, vI 268, vI x1] μ3 (fun μ5 => c_v G d YX5_tell [vR 5 0, vI 269, vI (μ5 a1 0 0)] μ5 (fun μ6 => ∃ t7 : Nat, μ6 4 0 0 = 100 * (t7 : Int) ∧ m_cls t7 = 9 ∧ (0 ≤ a2 ∧ a2 < 3) ∧ c_v G d YX5_tell [vR 5 0, vI 260, vI (μ6 t7 6 a2.toNat)] μ6 (fun μ8 => c_i G d YX0_countIn [vR a1 0, vI a2] μ8 (fun r10 μ9 => c_v G d YX5_tell [vR 5 0, vI 274, vI r10] μ9 (fun μ11 => ∃ t12 : Nat, μ11 4 0 0 = 100 * (t12 : Int) ∧ m_cls t12 = 9 ∧ c_i G d YX5_valueOf [vR 5 0, vR t12 0, vI 264] μ11 (fun r14 μ13 => K (if 0 < r14 then r14 else 0) μ13))))))) ∧ ((r4 = 0) → K x1 μ3))) :
    mW G X YX4_burnt μ 0 [some (vR 4 0), some (vR a1 0), some (vI a2), none] [] := by
  refine m_aload_n C dX4_burnt_0 rfl ?_
  refine f_getA C dX4_burnt_1 fl_KilnBench_Laws_62 hc_a1 (by decide) (by decide) (by decide) (by decide) ?_
  refine m_iload_n C dX4_burnt_4 rfl ?_
  obtain ⟨hb, h⟩ := h
  refine f_iald C dX4_burnt_5 (m_arO (a := 0) (len := 3) hc_a1 rfl) (by decide) hb ?_
  refine n_istore_n (fun x1 => [some (vR 4 0), some (vR a1 0), some (vI a2), some (vI x1)]) C dX4_burnt_6 (by decide) (fun _ => rfl) (fun x1 ex1 => ?_)
  have h := h x1 ex1
  refine m_aload_n C dX4_burnt_7 rfl ?_
  obtain ⟨t2, hx_t2, hc_t2, h⟩ := h
  refine f_getR (t := t2) (w := 0) C dX4_burnt_8 fl_KilnBench_Laws_18 rfl (by decide) (by decide) (by rw [hx_t2]; omega) (by decide) (m_cls0 hc_t2 (by decide)) ?_
  refine m_sipush C dX4_burnt_11 (by omega) ?_
  refine f_callVi (As := [vI 264]) (st := []) C dX4_burnt_14 ml_KilnBench_Laws_24 hc_t2 (by decide) rfl rfl rfl (Nat.le_of_ble_eq_true rfl) h (fun r4 μ3 h => ?_)
  refine m_if_ne (tgt := 22) C dX4_burnt_17 (by decide) (fun c => ?_) (fun c => ?_)
  · have h := h.1 c
    refine m_aload_n C dX4_burnt_22 rfl ?_
    refine f_getO (t := 5) C dX4_burnt_23 fl_KilnBench_Laws_12 rfl (by decide) (by decide) (by decide) (by decide) ?_
    refine m_sipush C dX4_burnt_26 (by omega) ?_
    refine m_iload_n C dX4_burnt_29 rfl ?_
    refine f_callVv (As := [vI 268, vI x1]) (st := []) C dX4_burnt_30 ml_KilnBench_Laws_47 rfl (by decide) rfl rfl rfl (Nat.le_of_ble_eq_true rfl) h (fun μ5 h => ?_)
    refine m_aload_n C dX4_burnt_33 rfl ?_
    refine f_getO (t := 5) C dX4_burnt_34 fl_KilnBench_Laws_12 rfl (by decide) (by decide) (by decide) (by decide) ?_
    refine m_sipush C dX4_burnt_37 (by omega) ?_
    refine m_aload_n C dX4_burnt_40 rfl ?_
    refine f_getI C dX4_burnt_41 fl_KilnBench_Laws_67 hc_a1 (by decide) (by decide) ?_
    refine f_callVv (As := [vI 269, vI (μ5 a1 0 0)]) (st := []) C dX4_burnt_44 ml_KilnBench_Laws_47 rfl (by decide) rfl rfl rfl (Nat.le_of_ble_eq_true rfl) h (fun μ6 h => ?_)
    refine m_aload_n C dX4_burnt_47 rfl ?_
    refine f_getO (t := 5) C dX4_burnt_48 fl_KilnBench_Laws_12 rfl (by decide) (by decide) (by decide) (by decide) ?_
    refine m_sipush C dX4_burnt_51 (by omega) ?_
    refine m_aload_n C dX4_burnt_54 rfl ?_
    obtain ⟨t7, hx_t7, hc_t7, h⟩ := h
    refine f_getR (t := t7) (w := 0) C dX4_burnt_55 fl_KilnBench_Laws_18 rfl (by decide) (by decide) (by rw [hx_t7]; omega) (by decide) (m_cls0 hc_t7 (by decide)) ?_
    refine f_getA C dX4_burnt_58 fl_KilnBench_Laws_71 hc_t7 (by decide) (by decide) (by decide) (by decide) ?_
    refine m_iload_n C dX4_burnt_61 rfl ?_
    obtain ⟨hb, h⟩ := h
    refine f_iald C dX4_burnt_62 (m_arO (a := 0) (len := 3) hc_t7 rfl) (by decide) hb ?_
    refine f_callVv (As := [vI 260, vI (μ6 t7 6 a2.toNat)]) (st := []) C dX4_burnt_63 ml_KilnBench_Laws_47 rfl (by decide) rfl rfl rfl (Nat.le_of_ble_eq_true rfl) h (fun μ8 h => ?_)
    refine m_aload_n C dX4_burnt_66 rfl ?_
    refine f_getO (t := 5) C dX4_burnt_67 fl_KilnBench_Laws_12 rfl (by decide) (by decide) (by decide) (by decide) ?_
    refine m_sipush C dX4_burnt_70 (by omega) ?_
    refine m_aload_n C dX4_burnt_73 rfl ?_
    refine m_iload_n C dX4_burnt_74 rfl ?_
    refine f_callVi (As := [vI a2]) (st := [vI 274, vR 5 0]) C dX4_burnt_75 ml_KilnBench_Laws_74 hc_a1 (by decide) rfl rfl rfl (Nat.le_of_ble_eq_true rfl) h (fun r10 μ9 h => ?_)
    refine f_callVv (As := [vI 274, vI r10]) (st := []) C dX4_burnt_78 ml_KilnBench_Laws_47 rfl (by decide) rfl rfl rfl (Nat.le_of_ble_eq_true rfl) h (fun μ11 h => ?_)
    refine m_iconst C dX4_burnt_81 (by unfold in32; omega) ?_
    refine m_aload_n C dX4_burnt_82 rfl ?_
    refine f_getO (t := 5) C dX4_burnt_83 fl_KilnBench_Laws_12 rfl (by decide) (by decide) (by decide) (by decide) ?_
    refine m_aload_n C dX4_burnt_86 rfl ?_
    obtain ⟨t12, hx_t12, hc_t12, h⟩ := h
    refine f_getR (t := t12) (w := 0) C dX4_burnt_87 fl_KilnBench_Laws_18 rfl (by decide) (by decide) (by rw [hx_t12]; omega) (by decide) (m_cls0 hc_t12 (by decide)) ?_
    refine m_sipush C dX4_burnt_90 (by omega) ?_
    refine f_callVi (As := [vR t12 0, vI 264]) (st := [vI 0]) C dX4_burnt_93 ml_KilnBench_Laws_40 rfl (by decide) rfl rfl rfl (Nat.le_of_ble_eq_true rfl) h (fun r14 μ13 h => ?_)
    refine m_mmax C dX4_burnt_96 mi_KilnBench_Laws_44 mb_mmaxs mb_ini mb_mmax (Nat.le_of_ble_eq_true rfl) (Nat.le_refl _) (Nat.le_refl _) ?_
    exact f_iret C R rfl dX4_burnt_99 h
  · have h := h.2 c
    refine m_iload_n C dX4_burnt_20 rfl ?_
    exact f_iret C R rfl dX4_burnt_21 h

set_option maxRecDepth 20000 in
theorem VX4_isSafe_0 {G : m_G} {X : m_X} {d : Nat} {K : Int → m_M → Prop} (C : mC G X YX4_isSafe (d + 1)) (R : r_i G X K) {μ : m_M} {a1 : Nat} {a2 : Int} {a3 : Int} (hc_a1 : m_cls a1 = 0)
    (h : mW G X YX4_isSafe μ 9 [some (vR 4 0), some (vR a1 0), some (vI a2), some (vI a3), some (vI (-1)), some (vI 0), some (vI 0), none, none] []) :
    mW G X YX4_isSafe μ 0 [some (vR 4 0), some (vR a1 0), some (vI a2), some (vI a3), none, none, none, none, none] [] := by
  refine m_iconst C dX4_isSafe_0 (by unfold in32; omega) ?_
  refine o_istore [some (vR 4 0), some (vR a1 0), some (vI a2), some (vI a3), some (vI (-1)), none, none, none, none] C dX4_isSafe_1 (by decide) rfl ?_
  refine m_iconst C dX4_isSafe_3 (by unfold in32; omega) ?_
  refine o_istore [some (vR 4 0), some (vR a1 0), some (vI a2), some (vI a3), some (vI (-1)), some (vI 0), none, none, none] C dX4_isSafe_4 (by decide) rfl ?_
  refine m_iconst C dX4_isSafe_6 (by unfold in32; omega) ?_
  refine o_istore [some (vR 4 0), some (vR a1 0), some (vI a2), some (vI a3), some (vI (-1)), some (vI 0), some (vI 0), none, none] C dX4_isSafe_7 (by decide) rfl ?_
  exact h

set_option maxRecDepth 20000 in
theorem VX4_isSafe_9 {G : m_G} {X : m_X} {d : Nat} {K : Int → m_M → Prop} (C : mC G X YX4_isSafe (d + 1)) (R : r_i G X K) {μ : m_M} {a1 : Nat} {a2 : Int} {a3 : Int} {l4 : Int} {l5 : Int} {l6 : Int} (hc_a1 : m_cls a1 = 0)
    (h : ∃ t1 : Nat, μ 4 0 0 = 100 * (t1 : Int) ∧ m_cls t1 = 9 ∧ (0 ≤ a2 ∧ a2 < 3) ∧ ((μ t1 6 a2.toNat ≤ l6) → K 1 μ) ∧ ((¬ μ t1 6 a2.toNat ≤ l6) → c_i G d YX0_whoIsIn [vR a1 0, vI a2, vI l6] μ (fun r3 μ2 => ((r3 = (-1)) → ∀ x6 : Int, x6 = w32 (l6 + 1) → mW G X YX4_isSafe μ2 9 [some (vR 4 0), some (vR a1 0), some (vI a2), some (vI a3), some (vI r3), some (vI l5), some (vI x6), none, none] []) ∧ ((¬ r3 = (-1)) → c_i G d YX4_temperOf [vR 4 0, vI r3, vI a3, vI l6, vI (μ2 a1 0 0)] μ2 (fun r8 μ7 => c_i G d YX4_isCracked [vR 4 0, vI r3, vI a3, vI l6, vI (μ7 a1 0 0), vI r8] μ7 (fun r11 μ10 => ((r11 = 0) → ((l4 = (-1)) → ∀ x14 : Int, x14 = w32 (l6 + 1) → mW G X YX4_isSafe μ10 9 [some (vR 4 0), some (vR a1 0), some (vI a2), some (vI a3), some (vI r3), some (vI r8), some (vI x14), none, none] []) ∧ ((¬ l4 = (-1)) → c_i G d YX4_isStuck [vR 4 0, vI l4, vI r3, vI (w32 (l5 - r8)), vI a3, vI (μ10 a1 0 0)] μ10 (fun r16 μ15 => ((r16 = 0) → ∀ x19 : Int, x19 = w32 (l6 + 1) → mW G X YX4_isSafe μ15 9 [some (vR 4 0), some (vR a1 0), some (vI a2), some (vI a3), some (vI r3), some (vI r8), some (vI x19), none, none] []) ∧ ((¬ r16 = 0) → K 0 μ15)))) ∧ ((¬ r11 = 0) → K 0 μ10))))))) :
    mW G X YX4_isSafe μ 9 [some (vR 4 0), some (vR a1 0), some (vI a2), some (vI a3), some (vI l4), some (vI l5), some (vI l6), none, none] [] := by
  refine m_iload C dX4_isSafe_9 rfl ?_
  refine m_aload_n C dX4_isSafe_11 rfl ?_
  obtain ⟨t1, hx_t1, hc_t1, h⟩ := h
  refine f_getR (t := t1) (w := 0) C dX4_isSafe_12 fl_KilnBench_Laws_18 rfl (by decide) (by decide) (by rw [hx_t1]; omega) (by decide) (m_cls0 hc_t1 (by decide)) ?_
  refine f_getA C dX4_isSafe_15 fl_KilnBench_Laws_71 hc_t1 (by decide) (by decide) (by decide) (by decide) ?_
  refine m_iload_n C dX4_isSafe_18 rfl ?_
  obtain ⟨hb, h⟩ := h
  refine f_iald C dX4_isSafe_19 (m_arO (a := 0) (len := 3) hc_t1 rfl) (by decide) hb ?_
  refine m_icmp_ge (tgt := 116) C dX4_isSafe_20 (by decide) (fun c => ?_) (fun c => ?_)
  · have h := h.1 c
    refine m_iconst C dX4_isSafe_116 (by unfold in32; omega) ?_
    exact f_zret C R rfl dX4_isSafe_117 (by decide) h
  · have h := h.2 c
    refine m_aload_n C dX4_isSafe_23 rfl ?_
    refine m_iload_n C dX4_isSafe_24 rfl ?_
    refine m_iload C dX4_isSafe_25 rfl ?_
    refine f_callVi (As := [vI a2, vI l6]) (st := []) C dX4_isSafe_27 ml_KilnBench_Laws_77 hc_a1 (by decide) rfl rfl rfl (Nat.le_of_ble_eq_true rfl) h (fun r3 μ2 h => ?_)
    refine o_istore [some (vR 4 0), some (vR a1 0), some (vI a2), some (vI a3), some (vI l4), some (vI l5), some (vI l6), some (vI r3), none] C dX4_isSafe_30 (by decide) rfl ?_
    refine m_iload C dX4_isSafe_32 rfl ?_
    refine m_iconst C dX4_isSafe_34 (by unfold in32; omega) ?_
    refine m_icmp_eq (tgt := 106) C dX4_isSafe_35 (by decide) (fun c => ?_) (fun c => ?_)
    · have h := h.1 c
      refine m_iload C dX4_isSafe_106 rfl ?_
      refine o_istore [some (vR 4 0), some (vR a1 0), some (vI a2), some (vI a3), some (vI r3), some (vI l5), some (vI l6), some (vI r3), none] C dX4_isSafe_108 (by decide) rfl ?_
      refine n_iinc (fun x6 => [some (vR 4 0), some (vR a1 0), some (vI a2), some (vI a3), some (vI r3), some (vI l5), some (vI x6), some (vI r3), none]) C dX4_isSafe_110 rfl (by decide) (fun _ => rfl) (fun x6 ex6 => ?_)
      have h := h x6 ex6
      refine m_goto (tgt := 9) C dX4_isSafe_113 (by decide) ?_
      exact n_weak (le_same (le_same (le_same (le_same (le_same (le_same (le_same (le_none (le_same le_nil))))))))) h
    · have h := h.2 c
      refine m_aload_n C dX4_isSafe_38 rfl ?_
      refine m_iload C dX4_isSafe_39 rfl ?_
      refine m_iload_n C dX4_isSafe_41 rfl ?_
      refine m_iload C dX4_isSafe_42 rfl ?_
      refine m_aload_n C dX4_isSafe_44 rfl ?_
      refine f_getI C dX4_isSafe_45 fl_KilnBench_Laws_67 hc_a1 (by decide) (by decide) ?_
      refine f_callVi (As := [vI r3, vI a3, vI l6, vI (μ2 a1 0 0)]) (st := []) C dX4_isSafe_48 ml_KilnBench_Laws_80 rfl (by decide) rfl rfl rfl (Nat.le_of_ble_eq_true rfl) h (fun r8 μ7 h => ?_)
      refine o_istore [some (vR 4 0), some (vR a1 0), some (vI a2), some (vI a3), some (vI l4), some (vI l5), some (vI l6), some (vI r3), some (vI r8)] C dX4_isSafe_51 (by decide) rfl ?_
      refine m_aload_n C dX4_isSafe_53 rfl ?_
      refine m_iload C dX4_isSafe_54 rfl ?_
      refine m_iload_n C dX4_isSafe_56 rfl ?_
      refine m_iload C dX4_isSafe_57 rfl ?_
      refine m_aload_n C dX4_isSafe_59 rfl ?_
      refine f_getI C dX4_isSafe_60 fl_KilnBench_Laws_67 hc_a1 (by decide) (by decide) ?_
      refine m_iload C dX4_isSafe_63 rfl ?_
      refine f_callVi (As := [vI r3, vI a3, vI l6, vI (μ7 a1 0 0), vI r8]) (st := []) C dX4_isSafe_65 ml_KilnBench_Laws_84 rfl (by decide) rfl rfl rfl (Nat.le_of_ble_eq_true rfl) h (fun r11 μ10 h => ?_)
      refine m_if_eq (tgt := 73) C dX4_isSafe_68 (by decide) (fun c => ?_) (fun c => ?_)
      · have h := h.1 c
        refine m_iload C dX4_isSafe_73 rfl ?_
        refine m_iconst C dX4_isSafe_75 (by unfold in32; omega) ?_
        refine m_icmp_eq (tgt := 102) C dX4_isSafe_76 (by decide) (fun c => ?_) (fun c => ?_)
        · have h := h.1 c
          refine m_iload C dX4_isSafe_102 rfl ?_
          refine o_istore [some (vR 4 0), some (vR a1 0), some (vI a2), some (vI a3), some (vI l4), some (vI r8), some (vI l6), some (vI r3), some (vI r8)] C dX4_isSafe_104 (by decide) rfl ?_
          refine m_iload C dX4_isSafe_106 rfl ?_
          refine o_istore [some (vR 4 0), some (vR a1 0), some (vI a2), some (vI a3), some (vI r3), some (vI r8), some (vI l6), some (vI r3), some (vI r8)] C dX4_isSafe_108 (by decide) rfl ?_
          refine n_iinc (fun x14 => [some (vR 4 0), some (vR a1 0), some (vI a2), some (vI a3), some (vI r3), some (vI r8), some (vI x14), some (vI r3), some (vI r8)]) C dX4_isSafe_110 rfl (by decide) (fun _ => rfl) (fun x14 ex14 => ?_)
          have h := h x14 ex14
          refine m_goto (tgt := 9) C dX4_isSafe_113 (by decide) ?_
          exact n_weak (le_same (le_same (le_same (le_same (le_same (le_same (le_same (le_none (le_none le_nil))))))))) h
        · have h := h.2 c
          refine m_aload_n C dX4_isSafe_79 rfl ?_
          refine m_iload C dX4_isSafe_80 rfl ?_
          refine m_iload C dX4_isSafe_82 rfl ?_
          refine m_iload C dX4_isSafe_84 rfl ?_
          refine m_iload C dX4_isSafe_86 rfl ?_
          refine m_isub C dX4_isSafe_88 ?_
          refine m_iload_n C dX4_isSafe_89 rfl ?_
          refine m_aload_n C dX4_isSafe_90 rfl ?_
          refine f_getI C dX4_isSafe_91 fl_KilnBench_Laws_67 hc_a1 (by decide) (by decide) ?_
          refine f_callVi (As := [vI l4, vI r3, vI (w32 (l5 - r8)), vI a3, vI (μ10 a1 0 0)]) (st := []) C dX4_isSafe_94 ml_KilnBench_Laws_88 rfl (by decide) rfl rfl rfl (Nat.le_of_ble_eq_true rfl) h (fun r16 μ15 h => ?_)
          refine m_if_eq (tgt := 102) C dX4_isSafe_97 (by decide) (fun c => ?_) (fun c => ?_)
          · have h := h.1 c
            refine m_iload C dX4_isSafe_102 rfl ?_
            refine o_istore [some (vR 4 0), some (vR a1 0), some (vI a2), some (vI a3), some (vI l4), some (vI r8), some (vI l6), some (vI r3), some (vI r8)] C dX4_isSafe_104 (by decide) rfl ?_
            refine m_iload C dX4_isSafe_106 rfl ?_
            refine o_istore [some (vR 4 0), some (vR a1 0), some (vI a2), some (vI a3), some (vI r3), some (vI r8), some (vI l6), some (vI r3), some (vI r8)] C dX4_isSafe_108 (by decide) rfl ?_
            refine n_iinc (fun x19 => [some (vR 4 0), some (vR a1 0), some (vI a2), some (vI a3), some (vI r3), some (vI r8), some (vI x19), some (vI r3), some (vI r8)]) C dX4_isSafe_110 rfl (by decide) (fun _ => rfl) (fun x19 ex19 => ?_)
            have h := h x19 ex19
            refine m_goto (tgt := 9) C dX4_isSafe_113 (by decide) ?_
            exact n_weak (le_same (le_same (le_same (le_same (le_same (le_same (le_same (le_none (le_none le_nil))))))))) h
          · have h := h.2 c
            refine m_iconst C dX4_isSafe_100 (by unfold in32; omega) ?_
            exact f_zret C R rfl dX4_isSafe_101 (by decide) h
      · have h := h.2 c
        refine m_iconst C dX4_isSafe_71 (by unfold in32; omega) ?_
        exact f_zret C R rfl dX4_isSafe_72 (by decide) h

set_option maxRecDepth 20000 in
theorem VX4_passWeek_0 {G : m_G} {X : m_X} {d : Nat} {K : Int → m_M → Prop} (C : mC G X YX4_passWeek (d + 1)) (R : r_i G X K) {μ : m_M} {a1 : Nat} {a2 : Int} (hc_a1 : m_cls a1 = 0)
    (h : ∃ t1 : Nat, μ 4 0 0 = 100 * (t1 : Int) ∧ m_cls t1 = 9 ∧ ∀ μ2 : m_M, μ2 = m_up μ a1 0 1 (if w32 ((μ a1 0 1) + (μ t1 0 8)) < 9999 then w32 ((μ a1 0 1) + (μ t1 0 8)) else 9999) → mW G X YX4_passWeek μ2 27 [some (vR 4 0), some (vR a1 0), some (vI a2), some (vI 0), some (vI 0)] []) :
    mW G X YX4_passWeek μ 0 [some (vR 4 0), some (vR a1 0), some (vI a2), none, none] [] := by
  refine m_aload_n C dX4_passWeek_0 rfl ?_
  refine m_sipush C dX4_passWeek_1 (by omega) ?_
  refine m_aload_n C dX4_passWeek_4 rfl ?_
  refine f_getI C dX4_passWeek_5 fl_KilnBench_Laws_91 hc_a1 (by decide) (by decide) ?_
  refine m_aload_n C dX4_passWeek_8 rfl ?_
  obtain ⟨t1, hx_t1, hc_t1, h⟩ := h
  refine f_getR (t := t1) (w := 0) C dX4_passWeek_9 fl_KilnBench_Laws_18 rfl (by decide) (by decide) (by rw [hx_t1]; omega) (by decide) (m_cls0 hc_t1 (by decide)) ?_
  refine f_getI C dX4_passWeek_12 fl_KilnBench_Laws_94 hc_t1 (by decide) (by decide) ?_
  refine m_iadd C dX4_passWeek_15 ?_
  refine m_mmin C dX4_passWeek_16 mi_KilnBench_Laws_30 mb_mmins mb_ini mb_mmin (Nat.le_of_ble_eq_true rfl) (Nat.le_refl _) (Nat.le_refl _) ?_
  refine f_putI C dX4_passWeek_19 fl_KilnBench_Laws_91 hc_a1 (by decide) (by decide) (by decide) ?_
  refine n_mem (fun μ2 eμ2 => ?_)
  have h := h μ2 eμ2
  refine m_iconst C dX4_passWeek_22 (by unfold in32; omega) ?_
  refine o_istore_n [some (vR 4 0), some (vR a1 0), some (vI a2), some (vI 0), none] C dX4_passWeek_23 (by decide) rfl ?_
  refine m_iconst C dX4_passWeek_24 (by unfold in32; omega) ?_
  refine o_istore [some (vR 4 0), some (vR a1 0), some (vI a2), some (vI 0), some (vI 0)] C dX4_passWeek_25 (by decide) rfl ?_
  exact h

set_option maxRecDepth 20000 in
theorem VX4_passWeek_27 {G : m_G} {X : m_X} {d : Nat} {K : Int → m_M → Prop} (C : mC G X YX4_passWeek (d + 1)) (R : r_i G X K) {μ : m_M} {a1 : Nat} {a2 : Int} {l3 : Int} {l4 : Int} (hc_a1 : m_cls a1 = 0)
    (h : ∃ t1 : Nat, μ 4 0 0 = 100 * (t1 : Int) ∧ m_cls t1 = 9 ∧ ((μ t1 0 6 ≤ l4) → ∀ μ2 : m_M, μ2 = m_up μ a1 0 0 (w32 ((μ a1 0 0) + 1)) → K l3 μ2) ∧ ((¬ μ t1 0 6 ≤ l4) → (0 ≤ l4 ∧ l4 < 3) ∧ ((μ a1 8 l4.toNat = (-1)) → ∀ x3 : Int, x3 = w32 (l4 + 1) → mW G X YX4_passWeek μ 27 [some (vR 4 0), some (vR a1 0), some (vI a2), some (vI l3), some (vI x3)] []) ∧ ((¬ μ a1 8 l4.toNat = (-1)) → c_i G d YX0_countIn [vR a1 0, vI l4] μ (fun r5 μ4 => ((r5 ≤ 0) → ∀ x6 : Int, x6 = w32 (l4 + 1) → mW G X YX4_passWeek μ4 27 [some (vR 4 0), some (vR a1 0), some (vI a2), some (vI l3), some (vI x6)] []) ∧ ((¬ r5 ≤ 0) → c_i G d YX4_tryKiln [vR 4 0, vR a1 0, vI l4, vI a2] μ4 (fun r8 μ7 => ∀ x9 : Int, x9 = w32 (l3 + r8) → ∀ x10 : Int, x10 = w32 (l4 + 1) → mW G X YX4_passWeek μ7 27 [some (vR 4 0), some (vR a1 0), some (vI a2), some (vI x9), some (vI x10)] [])))))) :
    mW G X YX4_passWeek μ 27 [some (vR 4 0), some (vR a1 0), some (vI a2), some (vI l3), some (vI l4)] [] := by
  refine m_iload C dX4_passWeek_27 rfl ?_
  refine m_aload_n C dX4_passWeek_29 rfl ?_
  obtain ⟨t1, hx_t1, hc_t1, h⟩ := h
  refine f_getR (t := t1) (w := 0) C dX4_passWeek_30 fl_KilnBench_Laws_18 rfl (by decide) (by decide) (by rw [hx_t1]; omega) (by decide) (m_cls0 hc_t1 (by decide)) ?_
  refine f_getI C dX4_passWeek_33 fl_KilnBench_Laws_97 hc_t1 (by decide) (by decide) ?_
  refine m_icmp_ge (tgt := 76) C dX4_passWeek_36 (by decide) (fun c => ?_) (fun c => ?_)
  · have h := h.1 c
    refine m_aload_n C dX4_passWeek_76 rfl ?_
    refine m_dup C dX4_passWeek_77 rfl ?_
    refine f_getI C dX4_passWeek_78 fl_KilnBench_Laws_67 hc_a1 (by decide) (by decide) ?_
    refine m_iconst C dX4_passWeek_81 (by unfold in32; omega) ?_
    refine m_iadd C dX4_passWeek_82 ?_
    refine f_putI C dX4_passWeek_83 fl_KilnBench_Laws_67 hc_a1 (by decide) (by decide) (by decide) ?_
    refine n_mem (fun μ2 eμ2 => ?_)
    have h := h μ2 eμ2
    refine m_iload_n C dX4_passWeek_86 rfl ?_
    exact f_iret C R rfl dX4_passWeek_87 h
  · have h := h.2 c
    refine m_aload_n C dX4_passWeek_39 rfl ?_
    refine f_getA C dX4_passWeek_40 fl_KilnBench_Laws_62 hc_a1 (by decide) (by decide) (by decide) (by decide) ?_
    refine m_iload C dX4_passWeek_43 rfl ?_
    obtain ⟨hb, h⟩ := h
    refine f_iald C dX4_passWeek_45 (m_arO (a := 0) (len := 3) hc_a1 rfl) (by decide) hb ?_
    refine m_iconst C dX4_passWeek_46 (by unfold in32; omega) ?_
    refine m_icmp_eq (tgt := 70) C dX4_passWeek_47 (by decide) (fun c => ?_) (fun c => ?_)
    · have h := h.1 c
      refine n_iinc (fun x3 => [some (vR 4 0), some (vR a1 0), some (vI a2), some (vI l3), some (vI x3)]) C dX4_passWeek_70 rfl (by decide) (fun _ => rfl) (fun x3 ex3 => ?_)
      have h := h x3 ex3
      refine m_goto (tgt := 27) C dX4_passWeek_73 (by decide) ?_
      exact h
    · have h := h.2 c
      refine m_aload_n C dX4_passWeek_50 rfl ?_
      refine m_iload C dX4_passWeek_51 rfl ?_
      refine f_callVi (As := [vI l4]) (st := []) C dX4_passWeek_53 ml_KilnBench_Laws_74 hc_a1 (by decide) rfl rfl rfl (Nat.le_of_ble_eq_true rfl) h (fun r5 μ4 h => ?_)
      refine m_if_le (tgt := 70) C dX4_passWeek_56 (by decide) (fun c => ?_) (fun c => ?_)
      · have h := h.1 c
        refine n_iinc (fun x6 => [some (vR 4 0), some (vR a1 0), some (vI a2), some (vI l3), some (vI x6)]) C dX4_passWeek_70 rfl (by decide) (fun _ => rfl) (fun x6 ex6 => ?_)
        have h := h x6 ex6
        refine m_goto (tgt := 27) C dX4_passWeek_73 (by decide) ?_
        exact h
      · have h := h.2 c
        refine m_iload_n C dX4_passWeek_59 rfl ?_
        refine m_aload_n C dX4_passWeek_60 rfl ?_
        refine m_aload_n C dX4_passWeek_61 rfl ?_
        refine m_iload C dX4_passWeek_62 rfl ?_
        refine m_iload_n C dX4_passWeek_64 rfl ?_
        refine f_callVi (As := [vR a1 0, vI l4, vI a2]) (st := [vI l3]) C dX4_passWeek_65 ml_KilnBench_Laws_100 rfl (by decide) rfl rfl rfl (Nat.le_of_ble_eq_true rfl) h (fun r8 μ7 h => ?_)
        refine m_iadd C dX4_passWeek_68 ?_
        refine n_istore_n (fun x9 => [some (vR 4 0), some (vR a1 0), some (vI a2), some (vI x9), some (vI l4)]) C dX4_passWeek_69 (by decide) (fun _ => rfl) (fun x9 ex9 => ?_)
        have h := h x9 ex9
        refine n_iinc (fun x10 => [some (vR 4 0), some (vR a1 0), some (vI a2), some (vI x9), some (vI x10)]) C dX4_passWeek_70 rfl (by decide) (fun _ => rfl) (fun x10 ex10 => ?_)
        have h := h x10 ex10
        refine m_goto (tgt := 27) C dX4_passWeek_73 (by decide) ?_
        exact h

set_option maxRecDepth 20000 in
theorem VX4_tryKiln_0 {G : m_G} {X : m_X} {d : Nat} {K : Int → m_M → Prop} (C : mC G X YX4_tryKiln (d + 1)) (R : r_i G X K) {μ : m_M} {a1 : Nat} {a2 : Int} {a3 : Int} (hc_a1 : m_cls a1 = 0)
    (h : c_i G d YX4_burnt [vR 4 0, vR a1 0, vI a2] μ (fun r2 μ1 => ((r2 ≤ μ1 a1 0 1) → ∀ μ4 : m_M, μ4 = m_up μ1 a1 0 1 (w32 ((μ1 a1 0 1) - r2)) → (0 ≤ a2 ∧ a2 < 3) ∧ ∀ x5 : Int, x5 = (if w32 ((μ4 a1 8 a2.toNat) + a3) < 20 then w32 ((μ4 a1 8 a2.toNat) + a3) else 20) → c_i G d YX4_fireAll [vR 4 0, vR a1 0, vI a2, vI x5] μ4 (fun r7 μ6 => c_v G d YX0_keepFiring [vR a1 0, vI a2, vI x5, vI r7] μ6 (fun μ9 => (0 ≤ a2 ∧ a2 < 3) ∧ ∀ μ10 : m_M, μ10 = m_up μ9 a1 8 a2.toNat (-1) → K 1 μ10))) ∧ ((¬ r2 ≤ μ1 a1 0 1) → K 0 μ1))) :
    mW G X YX4_tryKiln μ 0 [some (vR 4 0), some (vR a1 0), some (vI a2), some (vI a3), none, none, none] [] := by
  refine m_aload_n C dX4_tryKiln_0 rfl ?_
  refine m_aload_n C dX4_tryKiln_1 rfl ?_
  refine m_iload_n C dX4_tryKiln_2 rfl ?_
  refine f_callVi (As := [vR a1 0, vI a2]) (st := []) C dX4_tryKiln_3 ml_KilnBench_Laws_104 rfl (by decide) rfl rfl rfl (Nat.le_of_ble_eq_true rfl) h (fun r2 μ1 h => ?_)
  refine o_istore [some (vR 4 0), some (vR a1 0), some (vI a2), some (vI a3), some (vI r2), none, none] C dX4_tryKiln_6 (by decide) rfl ?_
  refine m_iload C dX4_tryKiln_8 rfl ?_
  refine m_aload_n C dX4_tryKiln_10 rfl ?_
  refine f_getI C dX4_tryKiln_11 fl_KilnBench_Laws_91 hc_a1 (by decide) (by decide) ?_
  refine m_icmp_le (tgt := 19) C dX4_tryKiln_14 (by decide) (fun c => ?_) (fun c => ?_)
  · have h := h.1 c
    refine m_aload_n C dX4_tryKiln_19 rfl ?_
    refine m_dup C dX4_tryKiln_20 rfl ?_
    refine f_getI C dX4_tryKiln_21 fl_KilnBench_Laws_91 hc_a1 (by decide) (by decide) ?_
    refine m_iload C dX4_tryKiln_24 rfl ?_
    refine m_isub C dX4_tryKiln_26 ?_
    refine f_putI C dX4_tryKiln_27 fl_KilnBench_Laws_91 hc_a1 (by decide) (by decide) (by decide) ?_
    refine n_mem (fun μ4 eμ4 => ?_)
    have h := h μ4 eμ4
    refine m_bipush C dX4_tryKiln_30 (by omega) ?_
    refine m_aload_n C dX4_tryKiln_32 rfl ?_
    refine f_getA C dX4_tryKiln_33 fl_KilnBench_Laws_62 hc_a1 (by decide) (by decide) (by decide) (by decide) ?_
    refine m_iload_n C dX4_tryKiln_36 rfl ?_
    obtain ⟨hb, h⟩ := h
    refine f_iald C dX4_tryKiln_37 (m_arO (a := 0) (len := 3) hc_a1 rfl) (by decide) hb ?_
    refine m_iload_n C dX4_tryKiln_38 rfl ?_
    refine m_iadd C dX4_tryKiln_39 ?_
    refine m_mmin C dX4_tryKiln_40 mi_KilnBench_Laws_30 mb_mmins mb_ini mb_mmin (Nat.le_of_ble_eq_true rfl) (Nat.le_refl _) (Nat.le_refl _) ?_
    refine n_istore (fun x5 => [some (vR 4 0), some (vR a1 0), some (vI a2), some (vI a3), some (vI r2), some (vI x5), none]) C dX4_tryKiln_43 (by decide) (fun _ => rfl) (fun x5 ex5 => ?_)
    have h := h x5 ex5
    refine m_aload_n C dX4_tryKiln_45 rfl ?_
    refine m_aload_n C dX4_tryKiln_46 rfl ?_
    refine m_iload_n C dX4_tryKiln_47 rfl ?_
    refine m_iload C dX4_tryKiln_48 rfl ?_
    refine f_callVi (As := [vR a1 0, vI a2, vI x5]) (st := []) C dX4_tryKiln_50 ml_KilnBench_Laws_108 rfl (by decide) rfl rfl rfl (Nat.le_of_ble_eq_true rfl) h (fun r7 μ6 h => ?_)
    refine o_istore [some (vR 4 0), some (vR a1 0), some (vI a2), some (vI a3), some (vI r2), some (vI x5), some (vI r7)] C dX4_tryKiln_53 (by decide) rfl ?_
    refine m_aload_n C dX4_tryKiln_55 rfl ?_
    refine m_iload_n C dX4_tryKiln_56 rfl ?_
    refine m_iload C dX4_tryKiln_57 rfl ?_
    refine m_iload C dX4_tryKiln_59 rfl ?_
    refine f_callVv (As := [vI a2, vI x5, vI r7]) (st := []) C dX4_tryKiln_61 ml_KilnBench_Laws_111 hc_a1 (by decide) rfl rfl rfl (Nat.le_of_ble_eq_true rfl) h (fun μ9 h => ?_)
    refine m_aload_n C dX4_tryKiln_64 rfl ?_
    refine f_getA C dX4_tryKiln_65 fl_KilnBench_Laws_62 hc_a1 (by decide) (by decide) (by decide) (by decide) ?_
    refine m_iload_n C dX4_tryKiln_68 rfl ?_
    refine m_iconst C dX4_tryKiln_69 (by unfold in32; omega) ?_
    obtain ⟨hb, h⟩ := h
    refine f_iast C dX4_tryKiln_70 (m_arO (a := 0) (len := 3) hc_a1 rfl) (by decide) hb ?_
    refine n_mem (fun μ10 eμ10 => ?_)
    have h := h μ10 eμ10
    refine m_iconst C dX4_tryKiln_71 (by unfold in32; omega) ?_
    exact f_iret C R rfl dX4_tryKiln_72 h
  · have h := h.2 c
    refine m_iconst C dX4_tryKiln_17 (by unfold in32; omega) ?_
    exact f_iret C R rfl dX4_tryKiln_18 h

set_option maxRecDepth 20000 in
theorem VX4_fireAll_0 {G : m_G} {X : m_X} {d : Nat} {K : Int → m_M → Prop} (C : mC G X YX4_fireAll (d + 1)) (R : r_i G X K) {μ : m_M} {a1 : Nat} {a2 : Int} {a3 : Int} (hc_a1 : m_cls a1 = 0)
    (h : mW G X YX4_fireAll μ 9 [some (vR 4 0), some (vR a1 0), some (vI a2), some (vI a3), some (vI 0), some (vI (-1)), some (vI 0), none, none, none] []) :
    mW G X YX4_fireAll μ 0 [some (vR 4 0), some (vR a1 0), some (vI a2), some (vI a3), none, none, none, none, none, none] [] := by
  refine m_iconst C dX4_fireAll_0 (by unfold in32; omega) ?_
  refine o_istore [some (vR 4 0), some (vR a1 0), some (vI a2), some (vI a3), some (vI 0), none, none, none, none, none] C dX4_fireAll_1 (by decide) rfl ?_
  refine m_iconst C dX4_fireAll_3 (by unfold in32; omega) ?_
  refine o_istore [some (vR 4 0), some (vR a1 0), some (vI a2), some (vI a3), some (vI 0), some (vI (-1)), none, none, none, none] C dX4_fireAll_4 (by decide) rfl ?_
  refine m_iconst C dX4_fireAll_6 (by unfold in32; omega) ?_
  refine o_istore [some (vR 4 0), some (vR a1 0), some (vI a2), some (vI a3), some (vI 0), some (vI (-1)), some (vI 0), none, none, none] C dX4_fireAll_7 (by decide) rfl ?_
  exact h

set_option maxRecDepth 20000 in
theorem VX4_fireAll_9 {G : m_G} {X : m_X} {d : Nat} {K : Int → m_M → Prop} (C : mC G X YX4_fireAll (d + 1)) (R : r_i G X K) {μ : m_M} {a1 : Nat} {a2 : Int} {a3 : Int} {l4 : Int} {l5 : Int} {l6 : Int} (hc_a1 : m_cls a1 = 0)
    (h : ∃ t1 : Nat, μ 4 0 0 = 100 * (t1 : Int) ∧ m_cls t1 = 9 ∧ (0 ≤ a2 ∧ a2 < 3) ∧ ((μ t1 6 a2.toNat ≤ l6) → K l4 μ) ∧ ((¬ μ t1 6 a2.toNat ≤ l6) → c_i G d YX0_whoIsIn [vR a1 0, vI a2, vI l6] μ (fun r3 μ2 => ((r3 = (-1)) → ∀ x6 : Int, x6 = w32 (l6 + 1) → mW G X YX4_fireAll μ2 9 [some (vR 4 0), some (vR a1 0), some (vI a2), some (vI a3), some (vI l4), some (vI r3), some (vI x6), none, none, none] []) ∧ ((¬ r3 = (-1)) → c_i G d YX4_temperOf [vR 4 0, vI r3, vI a3, vI l6, vI (μ2 a1 0 0)] μ2 (fun r8 μ7 => c_i G d YX4_isCracked [vR 4 0, vI r3, vI a3, vI l6, vI (μ7 a1 0 0), vI r8] μ7 (fun r11 μ10 => ((r11 = 0) → ∀ x13 : Int, x13 = w32 (l4 + 0) → c_v G d YX0_comeOut [vR a1 0, vI r3, vI r8, vI 0] μ10 (fun μ14 => ((l5 = (-1)) → ∀ x16 : Int, x16 = w32 (l6 + 1) → mW G X YX4_fireAll μ14 9 [some (vR 4 0), some (vR a1 0), some (vI a2), some (vI a3), some (vI x13), some (vI r3), some (vI x16), none, none, none] []) ∧ ((¬ l5 = (-1)) → (0 ≤ l5 ∧ l5 < 8) ∧ c_i G d YX4_isStuck [vR 4 0, vI l5, vI r3, vI (w32 ((μ14 a1 5 l5.toNat) - r8)), vI a3, vI (μ14 a1 0 0)] μ14 (fun r18 μ17 => ((r18 = 0) → ∀ x20 : Int, x20 = w32 (l6 + 1) → mW G X YX4_fireAll μ17 9 [some (vR 4 0), some (vR a1 0), some (vI a2), some (vI a3), some (vI x13), some (vI r3), some (vI x20), none, none, none] []) ∧ ((¬ r18 = 0) → c_v G d YX0_stick [vR a1 0, vI l5, vI r3] μ17 (fun μ21 => ∀ x23 : Int, x23 = w32 (l6 + 1) → mW G X YX4_fireAll μ21 9 [some (vR 4 0), some (vR a1 0), some (vI a2), some (vI a3), some (vI x13), some (vI r3), some (vI x23), none, none, none] [])))))) ∧ ((¬ r11 = 0) → ∀ x25 : Int, x25 = w32 (l4 + 1) → c_v G d YX0_comeOut [vR a1 0, vI r3, vI r8, vI 1] μ10 (fun μ26 => ((l5 = (-1)) → ∀ x28 : Int, x28 = w32 (l6 + 1) → mW G X YX4_fireAll μ26 9 [some (vR 4 0), some (vR a1 0), some (vI a2), some (vI a3), some (vI x25), some (vI r3), some (vI x28), none, none, none] []) ∧ ((¬ l5 = (-1)) → (0 ≤ l5 ∧ l5 < 8) ∧ c_i G d YX4_isStuck [vR 4 0, vI l5, vI r3, vI (w32 ((μ26 a1 5 l5.toNat) - r8)), vI a3, vI (μ26 a1 0 0)] μ26 (fun r30 μ29 => ((r30 = 0) → ∀ x32 : Int, x32 = w32 (l6 + 1) → mW G X YX4_fireAll μ29 9 [some (vR 4 0), some (vR a1 0), some (vI a2), some (vI a3), some (vI x25), some (vI r3), some (vI x32), none, none, none] []) ∧ ((¬ r30 = 0) → c_v G d YX0_stick [vR a1 0, vI l5, vI r3] μ29 (fun μ33 => ∀ x35 : Int, x35 = w32 (l6 + 1) → mW G X YX4_fireAll μ33 9 [some (vR 4 0), some (vR a1 0), some (vI a2), some (vI a3), some (vI x25), some (vI r3), some (vI x35), none, none, none] [])))))))))))) :
    mW G X YX4_fireAll μ 9 [some (vR 4 0), some (vR a1 0), some (vI a2), some (vI a3), some (vI l4), some (vI l5), some (vI l6), none, none, none] [] := by
  refine m_iload C dX4_fireAll_9 rfl ?_
  refine m_aload_n C dX4_fireAll_11 rfl ?_
  obtain ⟨t1, hx_t1, hc_t1, h⟩ := h
  refine f_getR (t := t1) (w := 0) C dX4_fireAll_12 fl_KilnBench_Laws_18 rfl (by decide) (by decide) (by rw [hx_t1]; omega) (by decide) (m_cls0 hc_t1 (by decide)) ?_
  refine f_getA C dX4_fireAll_15 fl_KilnBench_Laws_71 hc_t1 (by decide) (by decide) (by decide) (by decide) ?_
  refine m_iload_n C dX4_fireAll_18 rfl ?_
  obtain ⟨hb, h⟩ := h
  refine f_iald C dX4_fireAll_19 (m_arO (a := 0) (len := 3) hc_t1 rfl) (by decide) hb ?_
  refine m_icmp_ge (tgt := 145) C dX4_fireAll_20 (by decide) (fun c => ?_) (fun c => ?_)
  · have h := h.1 c
    refine m_iload C dX4_fireAll_145 rfl ?_
    exact f_iret C R rfl dX4_fireAll_147 h
  · have h := h.2 c
    refine m_aload_n C dX4_fireAll_23 rfl ?_
    refine m_iload_n C dX4_fireAll_24 rfl ?_
    refine m_iload C dX4_fireAll_25 rfl ?_
    refine f_callVi (As := [vI a2, vI l6]) (st := []) C dX4_fireAll_27 ml_KilnBench_Laws_77 hc_a1 (by decide) rfl rfl rfl (Nat.le_of_ble_eq_true rfl) h (fun r3 μ2 h => ?_)
    refine o_istore [some (vR 4 0), some (vR a1 0), some (vI a2), some (vI a3), some (vI l4), some (vI l5), some (vI l6), some (vI r3), none, none] C dX4_fireAll_30 (by decide) rfl ?_
    refine m_iload C dX4_fireAll_32 rfl ?_
    refine m_iconst C dX4_fireAll_34 (by unfold in32; omega) ?_
    refine m_icmp_eq (tgt := 135) C dX4_fireAll_35 (by decide) (fun c => ?_) (fun c => ?_)
    · have h := h.1 c
      refine m_iload C dX4_fireAll_135 rfl ?_
      refine o_istore [some (vR 4 0), some (vR a1 0), some (vI a2), some (vI a3), some (vI l4), some (vI r3), some (vI l6), some (vI r3), none, none] C dX4_fireAll_137 (by decide) rfl ?_
      refine n_iinc (fun x6 => [some (vR 4 0), some (vR a1 0), some (vI a2), some (vI a3), some (vI l4), some (vI r3), some (vI x6), some (vI r3), none, none]) C dX4_fireAll_139 rfl (by decide) (fun _ => rfl) (fun x6 ex6 => ?_)
      have h := h x6 ex6
      refine m_goto (tgt := 9) C dX4_fireAll_142 (by decide) ?_
      exact n_weak (le_same (le_same (le_same (le_same (le_same (le_same (le_same (le_none (le_same (le_same le_nil)))))))))) h
    · have h := h.2 c
      refine m_aload_n C dX4_fireAll_38 rfl ?_
      refine m_iload C dX4_fireAll_39 rfl ?_
      refine m_iload_n C dX4_fireAll_41 rfl ?_
      refine m_iload C dX4_fireAll_42 rfl ?_
      refine m_aload_n C dX4_fireAll_44 rfl ?_
      refine f_getI C dX4_fireAll_45 fl_KilnBench_Laws_67 hc_a1 (by decide) (by decide) ?_
      refine f_callVi (As := [vI r3, vI a3, vI l6, vI (μ2 a1 0 0)]) (st := []) C dX4_fireAll_48 ml_KilnBench_Laws_80 rfl (by decide) rfl rfl rfl (Nat.le_of_ble_eq_true rfl) h (fun r8 μ7 h => ?_)
      refine o_istore [some (vR 4 0), some (vR a1 0), some (vI a2), some (vI a3), some (vI l4), some (vI l5), some (vI l6), some (vI r3), some (vI r8), none] C dX4_fireAll_51 (by decide) rfl ?_
      refine m_aload_n C dX4_fireAll_53 rfl ?_
      refine m_iload C dX4_fireAll_54 rfl ?_
      refine m_iload_n C dX4_fireAll_56 rfl ?_
      refine m_iload C dX4_fireAll_57 rfl ?_
      refine m_aload_n C dX4_fireAll_59 rfl ?_
      refine f_getI C dX4_fireAll_60 fl_KilnBench_Laws_67 hc_a1 (by decide) (by decide) ?_
      refine m_iload C dX4_fireAll_63 rfl ?_
      refine f_callVi (As := [vI r3, vI a3, vI l6, vI (μ7 a1 0 0), vI r8]) (st := []) C dX4_fireAll_65 ml_KilnBench_Laws_84 rfl (by decide) rfl rfl rfl (Nat.le_of_ble_eq_true rfl) h (fun r11 μ10 h => ?_)
      refine m_if_eq (tgt := 75) C dX4_fireAll_68 (by decide) (fun c => ?_) (fun c => ?_)
      · have h := h.1 c
        refine m_iconst C dX4_fireAll_75 (by unfold in32; omega) ?_
        refine o_istore [some (vR 4 0), some (vR a1 0), some (vI a2), some (vI a3), some (vI l4), some (vI l5), some (vI l6), some (vI r3), some (vI r8), some (vI 0)] C dX4_fireAll_76 (by decide) rfl ?_
        refine m_iload C dX4_fireAll_78 rfl ?_
        refine m_iload C dX4_fireAll_80 rfl ?_
        refine m_iadd C dX4_fireAll_82 ?_
        refine n_istore (fun x13 => [some (vR 4 0), some (vR a1 0), some (vI a2), some (vI a3), some (vI x13), some (vI l5), some (vI l6), some (vI r3), some (vI r8), some (vI 0)]) C dX4_fireAll_83 (by decide) (fun _ => rfl) (fun x13 ex13 => ?_)
        have h := h x13 ex13
        refine m_aload_n C dX4_fireAll_85 rfl ?_
        refine m_iload C dX4_fireAll_86 rfl ?_
        refine m_iload C dX4_fireAll_88 rfl ?_
        refine m_iload C dX4_fireAll_90 rfl ?_
        refine f_callVv (As := [vI r3, vI r8, vI 0]) (st := []) C dX4_fireAll_92 ml_KilnBench_Laws_115 hc_a1 (by decide) rfl rfl rfl (Nat.le_of_ble_eq_true rfl) h (fun μ14 h => ?_)
        refine m_iload C dX4_fireAll_95 rfl ?_
        refine m_iconst C dX4_fireAll_97 (by unfold in32; omega) ?_
        refine m_icmp_eq (tgt := 135) C dX4_fireAll_98 (by decide) (fun c => ?_) (fun c => ?_)
        · have h := h.1 c
          refine m_iload C dX4_fireAll_135 rfl ?_
          refine o_istore [some (vR 4 0), some (vR a1 0), some (vI a2), some (vI a3), some (vI x13), some (vI r3), some (vI l6), some (vI r3), some (vI r8), some (vI 0)] C dX4_fireAll_137 (by decide) rfl ?_
          refine n_iinc (fun x16 => [some (vR 4 0), some (vR a1 0), some (vI a2), some (vI a3), some (vI x13), some (vI r3), some (vI x16), some (vI r3), some (vI r8), some (vI 0)]) C dX4_fireAll_139 rfl (by decide) (fun _ => rfl) (fun x16 ex16 => ?_)
          have h := h x16 ex16
          refine m_goto (tgt := 9) C dX4_fireAll_142 (by decide) ?_
          exact n_weak (le_same (le_same (le_same (le_same (le_same (le_same (le_same (le_none (le_none (le_none le_nil)))))))))) h
        · have h := h.2 c
          refine m_aload_n C dX4_fireAll_101 rfl ?_
          refine m_iload C dX4_fireAll_102 rfl ?_
          refine m_iload C dX4_fireAll_104 rfl ?_
          refine m_aload_n C dX4_fireAll_106 rfl ?_
          refine f_getA C dX4_fireAll_107 fl_KilnBench_Laws_118 hc_a1 (by decide) (by decide) (by decide) (by decide) ?_
          refine m_iload C dX4_fireAll_110 rfl ?_
          obtain ⟨hb, h⟩ := h
          refine f_iald C dX4_fireAll_112 (m_arO (a := 0) (len := 8) hc_a1 rfl) (by decide) hb ?_
          refine m_iload C dX4_fireAll_113 rfl ?_
          refine m_isub C dX4_fireAll_115 ?_
          refine m_iload_n C dX4_fireAll_116 rfl ?_
          refine m_aload_n C dX4_fireAll_117 rfl ?_
          refine f_getI C dX4_fireAll_118 fl_KilnBench_Laws_67 hc_a1 (by decide) (by decide) ?_
          refine f_callVi (As := [vI l5, vI r3, vI (w32 ((μ14 a1 5 l5.toNat) - r8)), vI a3, vI (μ14 a1 0 0)]) (st := []) C dX4_fireAll_121 ml_KilnBench_Laws_88 rfl (by decide) rfl rfl rfl (Nat.le_of_ble_eq_true rfl) h (fun r18 μ17 h => ?_)
          refine m_if_eq (tgt := 135) C dX4_fireAll_124 (by decide) (fun c => ?_) (fun c => ?_)
          · have h := h.1 c
            refine m_iload C dX4_fireAll_135 rfl ?_
            refine o_istore [some (vR 4 0), some (vR a1 0), some (vI a2), some (vI a3), some (vI x13), some (vI r3), some (vI l6), some (vI r3), some (vI r8), some (vI 0)] C dX4_fireAll_137 (by decide) rfl ?_
            refine n_iinc (fun x20 => [some (vR 4 0), some (vR a1 0), some (vI a2), some (vI a3), some (vI x13), some (vI r3), some (vI x20), some (vI r3), some (vI r8), some (vI 0)]) C dX4_fireAll_139 rfl (by decide) (fun _ => rfl) (fun x20 ex20 => ?_)
            have h := h x20 ex20
            refine m_goto (tgt := 9) C dX4_fireAll_142 (by decide) ?_
            exact n_weak (le_same (le_same (le_same (le_same (le_same (le_same (le_same (le_none (le_none (le_none le_nil)))))))))) h
          · have h := h.2 c
            refine m_aload_n C dX4_fireAll_127 rfl ?_
            refine m_iload C dX4_fireAll_128 rfl ?_
            refine m_iload C dX4_fireAll_130 rfl ?_
            refine f_callVv (As := [vI l5, vI r3]) (st := []) C dX4_fireAll_132 ml_KilnBench_Laws_121 hc_a1 (by decide) rfl rfl rfl (Nat.le_of_ble_eq_true rfl) h (fun μ21 h => ?_)
            refine m_iload C dX4_fireAll_135 rfl ?_
            refine o_istore [some (vR 4 0), some (vR a1 0), some (vI a2), some (vI a3), some (vI x13), some (vI r3), some (vI l6), some (vI r3), some (vI r8), some (vI 0)] C dX4_fireAll_137 (by decide) rfl ?_
            refine n_iinc (fun x23 => [some (vR 4 0), some (vR a1 0), some (vI a2), some (vI a3), some (vI x13), some (vI r3), some (vI x23), some (vI r3), some (vI r8), some (vI 0)]) C dX4_fireAll_139 rfl (by decide) (fun _ => rfl) (fun x23 ex23 => ?_)
            have h := h x23 ex23
            refine m_goto (tgt := 9) C dX4_fireAll_142 (by decide) ?_
            exact n_weak (le_same (le_same (le_same (le_same (le_same (le_same (le_same (le_none (le_none (le_none le_nil)))))))))) h
      · have h := h.2 c
        refine m_iconst C dX4_fireAll_71 (by unfold in32; omega) ?_
        refine m_goto (tgt := 76) C dX4_fireAll_72 (by decide) ?_
        refine o_istore [some (vR 4 0), some (vR a1 0), some (vI a2), some (vI a3), some (vI l4), some (vI l5), some (vI l6), some (vI r3), some (vI r8), some (vI 1)] C dX4_fireAll_76 (by decide) rfl ?_
        refine m_iload C dX4_fireAll_78 rfl ?_
        refine m_iload C dX4_fireAll_80 rfl ?_
        refine m_iadd C dX4_fireAll_82 ?_
        refine n_istore (fun x25 => [some (vR 4 0), some (vR a1 0), some (vI a2), some (vI a3), some (vI x25), some (vI l5), some (vI l6), some (vI r3), some (vI r8), some (vI 1)]) C dX4_fireAll_83 (by decide) (fun _ => rfl) (fun x25 ex25 => ?_)
        have h := h x25 ex25
        refine m_aload_n C dX4_fireAll_85 rfl ?_
        refine m_iload C dX4_fireAll_86 rfl ?_
        refine m_iload C dX4_fireAll_88 rfl ?_
        refine m_iload C dX4_fireAll_90 rfl ?_
        refine f_callVv (As := [vI r3, vI r8, vI 1]) (st := []) C dX4_fireAll_92 ml_KilnBench_Laws_115 hc_a1 (by decide) rfl rfl rfl (Nat.le_of_ble_eq_true rfl) h (fun μ26 h => ?_)
        refine m_iload C dX4_fireAll_95 rfl ?_
        refine m_iconst C dX4_fireAll_97 (by unfold in32; omega) ?_
        refine m_icmp_eq (tgt := 135) C dX4_fireAll_98 (by decide) (fun c => ?_) (fun c => ?_)
        · have h := h.1 c
          refine m_iload C dX4_fireAll_135 rfl ?_
          refine o_istore [some (vR 4 0), some (vR a1 0), some (vI a2), some (vI a3), some (vI x25), some (vI r3), some (vI l6), some (vI r3), some (vI r8), some (vI 1)] C dX4_fireAll_137 (by decide) rfl ?_
          refine n_iinc (fun x28 => [some (vR 4 0), some (vR a1 0), some (vI a2), some (vI a3), some (vI x25), some (vI r3), some (vI x28), some (vI r3), some (vI r8), some (vI 1)]) C dX4_fireAll_139 rfl (by decide) (fun _ => rfl) (fun x28 ex28 => ?_)
          have h := h x28 ex28
          refine m_goto (tgt := 9) C dX4_fireAll_142 (by decide) ?_
          exact n_weak (le_same (le_same (le_same (le_same (le_same (le_same (le_same (le_none (le_none (le_none le_nil)))))))))) h
        · have h := h.2 c
          refine m_aload_n C dX4_fireAll_101 rfl ?_
          refine m_iload C dX4_fireAll_102 rfl ?_
          refine m_iload C dX4_fireAll_104 rfl ?_
          refine m_aload_n C dX4_fireAll_106 rfl ?_
          refine f_getA C dX4_fireAll_107 fl_KilnBench_Laws_118 hc_a1 (by decide) (by decide) (by decide) (by decide) ?_
          refine m_iload C dX4_fireAll_110 rfl ?_
          obtain ⟨hb, h⟩ := h
          refine f_iald C dX4_fireAll_112 (m_arO (a := 0) (len := 8) hc_a1 rfl) (by decide) hb ?_
          refine m_iload C dX4_fireAll_113 rfl ?_
          refine m_isub C dX4_fireAll_115 ?_
          refine m_iload_n C dX4_fireAll_116 rfl ?_
          refine m_aload_n C dX4_fireAll_117 rfl ?_
          refine f_getI C dX4_fireAll_118 fl_KilnBench_Laws_67 hc_a1 (by decide) (by decide) ?_
          refine f_callVi (As := [vI l5, vI r3, vI (w32 ((μ26 a1 5 l5.toNat) - r8)), vI a3, vI (μ26 a1 0 0)]) (st := []) C dX4_fireAll_121 ml_KilnBench_Laws_88 rfl (by decide) rfl rfl rfl (Nat.le_of_ble_eq_true rfl) h (fun r30 μ29 h => ?_)
          refine m_if_eq (tgt := 135) C dX4_fireAll_124 (by decide) (fun c => ?_) (fun c => ?_)
          · have h := h.1 c
            refine m_iload C dX4_fireAll_135 rfl ?_
            refine o_istore [some (vR 4 0), some (vR a1 0), some (vI a2), some (vI a3), some (vI x25), some (vI r3), some (vI l6), some (vI r3), some (vI r8), some (vI 1)] C dX4_fireAll_137 (by decide) rfl ?_
            refine n_iinc (fun x32 => [some (vR 4 0), some (vR a1 0), some (vI a2), some (vI a3), some (vI x25), some (vI r3), some (vI x32), some (vI r3), some (vI r8), some (vI 1)]) C dX4_fireAll_139 rfl (by decide) (fun _ => rfl) (fun x32 ex32 => ?_)
            have h := h x32 ex32
            refine m_goto (tgt := 9) C dX4_fireAll_142 (by decide) ?_
            exact n_weak (le_same (le_same (le_same (le_same (le_same (le_same (le_same (le_none (le_none (le_none le_nil)))))))))) h
          · have h := h.2 c
            refine m_aload_n C dX4_fireAll_127 rfl ?_
            refine m_iload C dX4_fireAll_128 rfl ?_
            refine m_iload C dX4_fireAll_130 rfl ?_
            refine f_callVv (As := [vI l5, vI r3]) (st := []) C dX4_fireAll_132 ml_KilnBench_Laws_121 hc_a1 (by decide) rfl rfl rfl (Nat.le_of_ble_eq_true rfl) h (fun μ33 h => ?_)
            refine m_iload C dX4_fireAll_135 rfl ?_
            refine o_istore [some (vR 4 0), some (vR a1 0), some (vI a2), some (vI a3), some (vI x25), some (vI r3), some (vI l6), some (vI r3), some (vI r8), some (vI 1)] C dX4_fireAll_137 (by decide) rfl ?_
            refine n_iinc (fun x35 => [some (vR 4 0), some (vR a1 0), some (vI a2), some (vI a3), some (vI x25), some (vI r3), some (vI x35), some (vI r3), some (vI r8), some (vI 1)]) C dX4_fireAll_139 rfl (by decide) (fun _ => rfl) (fun x35 ex35 => ?_)
            have h := h x35 ex35
            refine m_goto (tgt := 9) C dX4_fireAll_142 (by decide) ?_
            exact n_weak (le_same (le_same (le_same (le_same (le_same (le_same (le_same (le_none (le_none (le_none le_nil)))))))))) h

set_option maxRecDepth 20000 in
theorem VX5_tell_0 {G : m_G} {X : m_X} {d : Nat} {K : m_M → Prop} (C : mC G X YX5_tell (d + 1)) (R : r_v G X K) {μ : m_M} {a1 : Int} {a2 : Int}
    (h : ∀ x1 : Int, x1 = w32 (a1 - 256) → ((x1 < 0) → K μ) ∧ ((¬ x1 < 0) → ((26 ≤ x1) → K μ) ∧ ((¬ 26 ≤ x1) → (0 ≤ x1 ∧ x1 < 26) ∧ ∀ μ2 : m_M, μ2 = m_up μ 5 1 x1.toNat a2 → K μ2))) :
    mW G X YX5_tell μ 0 [some (vR 5 0), some (vI a1), some (vI a2), none] [] := by
  refine m_iload_n C dX5_tell_0 rfl ?_
  refine m_sipush C dX5_tell_1 (by omega) ?_
  refine m_isub C dX5_tell_4 ?_
  refine n_istore_n (fun x1 => [some (vR 5 0), some (vI a1), some (vI a2), some (vI x1)]) C dX5_tell_5 (by decide) (fun _ => rfl) (fun x1 ex1 => ?_)
  have h := h x1 ex1
  refine m_iload_n C dX5_tell_6 rfl ?_
  refine m_if_lt (tgt := 26) C dX5_tell_7 (by decide) (fun c => ?_) (fun c => ?_)
  · have h := h.1 c
    exact f_vret C R rfl dX5_tell_26 h
  · have h := h.2 c
    refine m_iload_n C dX5_tell_10 rfl ?_
    refine m_aload_n C dX5_tell_11 rfl ?_
    refine f_getA C dX5_tell_12 fl_KilnBench_Machine_11 rfl (by decide) (by decide) (by decide) (by decide) ?_
    refine f_alen C dX5_tell_15 (m_arO (a := 0) (len := 26) rfl rfl) (by decide) (by decide) (by decide) ?_
    refine m_icmp_ge (tgt := 26) C dX5_tell_16 (by decide) (fun c => ?_) (fun c => ?_)
    · have h := h.1 c
      exact f_vret C R rfl dX5_tell_26 h
    · have h := h.2 c
      refine m_aload_n C dX5_tell_19 rfl ?_
      refine f_getA C dX5_tell_20 fl_KilnBench_Machine_11 rfl (by decide) (by decide) (by decide) (by decide) ?_
      refine m_iload_n C dX5_tell_23 rfl ?_
      refine m_iload_n C dX5_tell_24 rfl ?_
      obtain ⟨hb, h⟩ := h
      refine f_iast C dX5_tell_25 (m_arO (a := 0) (len := 26) rfl rfl) (by decide) hb ?_
      refine n_mem (fun μ2 eμ2 => ?_)
      have h := h μ2 eμ2
      exact f_vret C R rfl dX5_tell_26 h

set_option maxRecDepth 20000 in
theorem VX5_valueOf_0 {G : m_G} {X : m_X} {d : Nat} {K : Int → m_M → Prop} (C : mC G X YX5_valueOf (d + 1)) (R : r_i G X K) {μ : m_M} {a1 : Nat} {a2 : Int} (hc_a1 : m_cls a1 = 9)
    (h : ∀ x1 : Int, x1 = w32 (a2 - 261) → ((x1 < 0) → K 0 μ) ∧ ((¬ x1 < 0) → ((x1 < 4) → (0 ≤ x1 ∧ x1 < 4) ∧ ∀ x3 : Int, x3 = μ a1 14 x1.toNat → mW G X YX5_valueOf μ 28 [some (vR 5 0), some (vR a1 0), some (vI a2), some (vI x1), some (vI 0), some (vI x3), none, none, none, none] []) ∧ ((¬ x1 < 4) → K 0 μ))) :
    mW G X YX5_valueOf μ 0 [some (vR 5 0), some (vR a1 0), some (vI a2), none, none, none, none, none, none, none] [] := by
  refine m_iload_n C dX5_valueOf_0 rfl ?_
  refine m_sipush C dX5_valueOf_1 (by omega) ?_
  refine m_isub C dX5_valueOf_4 ?_
  refine n_istore_n (fun x1 => [some (vR 5 0), some (vR a1 0), some (vI a2), some (vI x1), none, none, none, none, none, none]) C dX5_valueOf_5 (by decide) (fun _ => rfl) (fun x1 ex1 => ?_)
  have h := h x1 ex1
  refine m_iload_n C dX5_valueOf_6 rfl ?_
  refine m_if_lt (tgt := 15) C dX5_valueOf_7 (by decide) (fun c => ?_) (fun c => ?_)
  · have h := h.1 c
    refine m_iconst C dX5_valueOf_15 (by unfold in32; omega) ?_
    exact f_iret C R rfl dX5_valueOf_16 h
  · have h := h.2 c
    refine m_iload_n C dX5_valueOf_10 rfl ?_
    refine m_iconst C dX5_valueOf_11 (by unfold in32; omega) ?_
    refine m_icmp_lt (tgt := 17) C dX5_valueOf_12 (by decide) (fun c => ?_) (fun c => ?_)
    · have h := h.1 c
      refine m_iconst C dX5_valueOf_17 (by unfold in32; omega) ?_
      refine o_istore [some (vR 5 0), some (vR a1 0), some (vI a2), some (vI x1), some (vI 0), none, none, none, none, none] C dX5_valueOf_18 (by decide) rfl ?_
      refine m_aload_n C dX5_valueOf_20 rfl ?_
      refine f_getA C dX5_valueOf_21 fl_KilnBench_Machine_22 hc_a1 (by decide) (by decide) (by decide) (by decide) ?_
      refine m_iload_n C dX5_valueOf_24 rfl ?_
      obtain ⟨hb, h⟩ := h
      refine f_iald C dX5_valueOf_25 (m_arO (a := 0) (len := 4) hc_a1 rfl) (by decide) hb ?_
      refine n_istore (fun x3 => [some (vR 5 0), some (vR a1 0), some (vI a2), some (vI x1), some (vI 0), some (vI x3), none, none, none, none]) C dX5_valueOf_26 (by decide) (fun _ => rfl) (fun x3 ex3 => ?_)
      have h := h x3 ex3
      exact h
    · have h := h.2 c
      refine m_iconst C dX5_valueOf_15 (by unfold in32; omega) ?_
      exact f_iret C R rfl dX5_valueOf_16 h

set_option maxRecDepth 20000 in
theorem VX5_valueOf_28 {G : m_G} {X : m_X} {d : Nat} {K : Int → m_M → Prop} (C : mC G X YX5_valueOf (d + 1)) (R : r_i G X K) {μ : m_M} {a1 : Nat} {a2 : Int} {l3 : Int} {l4 : Int} {l5 : Int} (hc_a1 : m_cls a1 = 9)
    (h : (0 ≤ l3 ∧ l3 < 4) ∧ ((μ a1 15 l3.toNat ≤ l5) → K (μ 5 2 0) μ) ∧ ((¬ μ a1 15 l3.toNat ≤ l5) → (0 ≤ l5 ∧ l5 < 1600) ∧ ∀ x1 : Int, x1 = μ a1 12 l5.toNat → c_i G d YX5_operandsOf [vI x1] μ (fun r3 μ2 => ∀ x4 : Int, x4 = w32 (l4 - r3) → ((x4 < 0) → K 0 μ2) ∧ ((¬ x4 < 0) → ((w32 (x4 + 2) < 64) → c_l G d YX5_resultOf [vR 5 0, vI x1, vI x4] μ2 (fun r6 μ5 => (0 ≤ x4 ∧ x4 < 64) ∧ ∀ μ8 : m_M, μ8 = m_up μ5 5 2 x4.toNat (w32 (if (if r6 < 1000000 then r6 else 1000000) < (-1000000) then (-1000000) else (if r6 < 1000000 then r6 else 1000000))) → ∀ x9 : Int, x9 = w32 (x4 + 1) → ∀ x10 : Int, x10 = w32 (l5 + 1) → mW G X YX5_valueOf μ8 28 [some (vR 5 0), some (vR a1 0), some (vI a2), some (vI l3), some (vI x9), some (vI x10), none, none, none, none] [])) ∧ ((¬ w32 (x4 + 2) < 64) → K 0 μ2))))) :
    mW G X YX5_valueOf μ 28 [some (vR 5 0), some (vR a1 0), some (vI a2), some (vI l3), some (vI l4), some (vI l5), none, none, none, none] [] := by
  refine m_iload C dX5_valueOf_28 rfl ?_
  refine m_aload_n C dX5_valueOf_30 rfl ?_
  refine f_getA C dX5_valueOf_31 fl_KilnBench_Machine_25 hc_a1 (by decide) (by decide) (by decide) (by decide) ?_
  refine m_iload_n C dX5_valueOf_34 rfl ?_
  obtain ⟨hb, h⟩ := h
  refine f_iald C dX5_valueOf_35 (m_arO (a := 0) (len := 4) hc_a1 rfl) (by decide) hb ?_
  refine m_icmp_ge (tgt := 118) C dX5_valueOf_36 (by decide) (fun c => ?_) (fun c => ?_)
  · have h := h.1 c
    refine m_aload_n C dX5_valueOf_118 rfl ?_
    refine f_getA C dX5_valueOf_119 fl_KilnBench_Machine_17 rfl (by decide) (by decide) (by decide) (by decide) ?_
    refine m_iconst C dX5_valueOf_122 (by unfold in32; omega) ?_
    refine f_iald C dX5_valueOf_123 (m_arO (a := 0) (len := 64) rfl rfl) (by decide) (by decide) ?_
    exact f_iret C R rfl dX5_valueOf_124 h
  · have h := h.2 c
    refine m_aload_n C dX5_valueOf_39 rfl ?_
    refine f_getA C dX5_valueOf_40 fl_KilnBench_Machine_28 hc_a1 (by decide) (by decide) (by decide) (by decide) ?_
    refine m_iload C dX5_valueOf_43 rfl ?_
    obtain ⟨hb, h⟩ := h
    refine f_iald C dX5_valueOf_45 (m_arO (a := 0) (len := 1600) hc_a1 rfl) (by decide) hb ?_
    refine n_istore (fun x1 => [some (vR 5 0), some (vR a1 0), some (vI a2), some (vI l3), some (vI l4), some (vI l5), some (vI x1), none, none, none]) C dX5_valueOf_46 (by decide) (fun _ => rfl) (fun x1 ex1 => ?_)
    have h := h x1 ex1
    refine m_iload C dX5_valueOf_48 rfl ?_
    refine m_iload C dX5_valueOf_50 rfl ?_
    refine f_callSi (As := [vI x1]) (st := [vI l4]) C dX5_valueOf_52 ml_KilnBench_Machine_31 rfl rfl (Nat.le_of_ble_eq_true rfl) h (fun r3 μ2 h => ?_)
    refine m_isub C dX5_valueOf_55 ?_
    refine n_istore (fun x4 => [some (vR 5 0), some (vR a1 0), some (vI a2), some (vI l3), some (vI l4), some (vI l5), some (vI x1), some (vI x4), none, none]) C dX5_valueOf_56 (by decide) (fun _ => rfl) (fun x4 ex4 => ?_)
    have h := h x4 ex4
    refine m_iload C dX5_valueOf_58 rfl ?_
    refine m_if_lt (tgt := 72) C dX5_valueOf_60 (by decide) (fun c => ?_) (fun c => ?_)
    · have h := h.1 c
      refine m_iconst C dX5_valueOf_72 (by unfold in32; omega) ?_
      exact f_iret C R rfl dX5_valueOf_73 h
    · have h := h.2 c
      refine m_iload C dX5_valueOf_63 rfl ?_
      refine m_iconst C dX5_valueOf_65 (by unfold in32; omega) ?_
      refine m_iadd C dX5_valueOf_66 ?_
      refine m_bipush C dX5_valueOf_67 (by omega) ?_
      refine m_icmp_lt (tgt := 74) C dX5_valueOf_69 (by decide) (fun c => ?_) (fun c => ?_)
      · have h := h.1 c
        refine m_aload_n C dX5_valueOf_74 rfl ?_
        refine m_iload C dX5_valueOf_75 rfl ?_
        refine m_iload C dX5_valueOf_77 rfl ?_
        refine f_callVl (As := [vI x1, vI x4]) (st := []) C dX5_valueOf_79 ml_KilnBench_Machine_35 rfl (by decide) rfl rfl rfl (Nat.le_of_ble_eq_true rfl) h (fun r6 μ5 h => ?_)
        refine o_lstore [some (vR 5 0), some (vR a1 0), some (vI a2), some (vI l3), some (vI l4), some (vI l5), some (vI x1), some (vI x4), some (vJ r6), none] C dX5_valueOf_82 (by decide) rfl ?_
        refine m_aload_n C dX5_valueOf_84 rfl ?_
        refine f_getA C dX5_valueOf_85 fl_KilnBench_Machine_17 rfl (by decide) (by decide) (by decide) (by decide) ?_
        refine m_iload C dX5_valueOf_88 rfl ?_
        refine m_ldc2 (x := (-1000000)) C dX5_valueOf_90 lc_KilnBench_Machine_39 rfl ?_
        refine m_ldc2 (x := 1000000) C dX5_valueOf_93 lc_KilnBench_Machine_41 rfl ?_
        refine m_lload C dX5_valueOf_96 rfl ?_
        refine m_mminL C dX5_valueOf_98 mi_KilnBench_Machine_43 mb_mminLs mb_ini mb_mminL (Nat.le_of_ble_eq_true rfl) (Nat.le_refl _) (Nat.le_refl _) ?_
        refine m_mmaxL C dX5_valueOf_101 mi_KilnBench_Machine_49 mb_mmaxLs mb_ini mb_mmaxL (Nat.le_of_ble_eq_true rfl) (Nat.le_refl _) (Nat.le_refl _) ?_
        refine m_l2i C dX5_valueOf_104 ?_
        obtain ⟨hb, h⟩ := h
        refine f_iast C dX5_valueOf_105 (m_arO (a := 0) (len := 64) rfl rfl) (by decide) hb ?_
        refine n_mem (fun μ8 eμ8 => ?_)
        have h := h μ8 eμ8
        refine m_iload C dX5_valueOf_106 rfl ?_
        refine m_iconst C dX5_valueOf_108 (by unfold in32; omega) ?_
        refine m_iadd C dX5_valueOf_109 ?_
        refine n_istore (fun x9 => [some (vR 5 0), some (vR a1 0), some (vI a2), some (vI l3), some (vI x9), some (vI l5), some (vI x1), some (vI x4), some (vJ r6), none]) C dX5_valueOf_110 (by decide) (fun _ => rfl) (fun x9 ex9 => ?_)
        have h := h x9 ex9
        refine n_iinc (fun x10 => [some (vR 5 0), some (vR a1 0), some (vI a2), some (vI l3), some (vI x9), some (vI x10), some (vI x1), some (vI x4), some (vJ r6), none]) C dX5_valueOf_112 rfl (by decide) (fun _ => rfl) (fun x10 ex10 => ?_)
        have h := h x10 ex10
        refine m_goto (tgt := 28) C dX5_valueOf_115 (by decide) ?_
        exact n_weak (le_same (le_same (le_same (le_same (le_same (le_same (le_none (le_none (le_none (le_same le_nil)))))))))) h
      · have h := h.2 c
        refine m_iconst C dX5_valueOf_72 (by unfold in32; omega) ?_
        exact f_iret C R rfl dX5_valueOf_73 h

set_option maxRecDepth 20000 in
theorem VX5_operandsOf_0 {G : m_G} {X : m_X} {d : Nat} {K : Int → m_M → Prop} (C : mC G X YX5_operandsOf (d + 1)) (R : r_i G X K) {μ : m_M} {a1 : Int}
    (h : ((a1 < 1000) → ((a1 = 275) → K 3 μ) ∧ ((a1 = 276) → K 2 μ) ∧ ((a1 = 277) → K 2 μ) ∧ ((a1 = 278) → K 1 μ) ∧ ((a1 = 280) → K 2 μ) ∧ ((a1 = 281) → K 2 μ) ∧ (((a1 < 275 ∨ 281 < a1 ∨ a1 = 279)) → ((256 ≤ a1) → K 0 μ) ∧ ((¬ 256 ≤ a1) → K 2 μ))) ∧ ((¬ a1 < 1000) → K 0 μ)) :
    mW G X YX5_operandsOf μ 0 [some (vI a1)] [] := by
  refine m_iload_n C dX5_operandsOf_0 rfl ?_
  refine m_sipush C dX5_operandsOf_1 (by omega) ?_
  refine m_icmp_lt (tgt := 9) C dX5_operandsOf_4 (by decide) (fun c => ?_) (fun c => ?_)
  · have h := h.1 c
    refine m_iload_n C dX5_operandsOf_9 rfl ?_
    by_cases hx : a1 < 275 ∨ 281 < a1
    · have h := h.2.2.2.2.2.2 (by omega)
      refine m_swOut (tgt := 64) C dX5_operandsOf_10 hx (by decide) ?_
      refine m_iload_n C dX5_operandsOf_64 rfl ?_
      refine m_sipush C dX5_operandsOf_65 (by omega) ?_
      refine m_icmp_ge (tgt := 75) C dX5_operandsOf_68 (by decide) (fun c => ?_) (fun c => ?_)
      · have h := h.1 c
        refine m_iconst C dX5_operandsOf_75 (by unfold in32; omega) ?_
        exact f_iret C R rfl dX5_operandsOf_76 h
      · have h := h.2 c
        refine m_iconst C dX5_operandsOf_71 (by unfold in32; omega) ?_
        refine m_goto (tgt := 76) C dX5_operandsOf_72 (by decide) ?_
        exact f_iret C R rfl dX5_operandsOf_76 h
    · have hx : a1 = 275 ∨ a1 = 276 ∨ a1 = 277 ∨ a1 = 278 ∨ a1 = 279 ∨ a1 = 280 ∨ a1 = 281 := by omega
      rcases hx with hx | hx | hx | hx | hx | hx | hx
      · have h := h.1 hx
        refine m_swIn (tgt := 52) (off := 42) C dX5_operandsOf_10 (by omega) (by omega) (by rw [hx]; rfl) (by decide) ?_
        refine m_iconst C dX5_operandsOf_52 (by unfold in32; omega) ?_
        exact f_iret C R rfl dX5_operandsOf_53 h
      · have h := h.2.1 hx
        refine m_swIn (tgt := 56) (off := 46) C dX5_operandsOf_10 (by omega) (by omega) (by rw [hx]; rfl) (by decide) ?_
        refine m_iconst C dX5_operandsOf_56 (by unfold in32; omega) ?_
        exact f_iret C R rfl dX5_operandsOf_57 h
      · have h := h.2.2.1 hx
        refine m_swIn (tgt := 58) (off := 48) C dX5_operandsOf_10 (by omega) (by omega) (by rw [hx]; rfl) (by decide) ?_
        refine m_iconst C dX5_operandsOf_58 (by unfold in32; omega) ?_
        exact f_iret C R rfl dX5_operandsOf_59 h
      · have h := h.2.2.2.1 hx
        refine m_swIn (tgt := 54) (off := 44) C dX5_operandsOf_10 (by omega) (by omega) (by rw [hx]; rfl) (by decide) ?_
        refine m_iconst C dX5_operandsOf_54 (by unfold in32; omega) ?_
        exact f_iret C R rfl dX5_operandsOf_55 h
      · have h := h.2.2.2.2.2.2 (by omega)
        refine m_swIn (tgt := 64) (off := 54) C dX5_operandsOf_10 (by omega) (by omega) (by rw [hx]; rfl) (by decide) ?_
        refine m_iload_n C dX5_operandsOf_64 rfl ?_
        refine m_sipush C dX5_operandsOf_65 (by omega) ?_
        refine m_icmp_ge (tgt := 75) C dX5_operandsOf_68 (by decide) (fun c => ?_) (fun c => ?_)
        · have h := h.1 c
          refine m_iconst C dX5_operandsOf_75 (by unfold in32; omega) ?_
          exact f_iret C R rfl dX5_operandsOf_76 h
        · have h := h.2 c
          refine m_iconst C dX5_operandsOf_71 (by unfold in32; omega) ?_
          refine m_goto (tgt := 76) C dX5_operandsOf_72 (by decide) ?_
          exact f_iret C R rfl dX5_operandsOf_76 h
      · have h := h.2.2.2.2.1 hx
        refine m_swIn (tgt := 60) (off := 50) C dX5_operandsOf_10 (by omega) (by omega) (by rw [hx]; rfl) (by decide) ?_
        refine m_iconst C dX5_operandsOf_60 (by unfold in32; omega) ?_
        exact f_iret C R rfl dX5_operandsOf_61 h
      · have h := h.2.2.2.2.2.1 hx
        refine m_swIn (tgt := 62) (off := 52) C dX5_operandsOf_10 (by omega) (by omega) (by rw [hx]; rfl) (by decide) ?_
        refine m_iconst C dX5_operandsOf_62 (by unfold in32; omega) ?_
        exact f_iret C R rfl dX5_operandsOf_63 h
  · have h := h.2 c
    refine m_iconst C dX5_operandsOf_7 (by unfold in32; omega) ?_
    exact f_iret C R rfl dX5_operandsOf_8 h

set_option maxRecDepth 20000 in
theorem VX5_resultOf_0 {G : m_G} {X : m_X} {d : Nat} {K : Int → m_M → Prop} (C : mC G X YX5_resultOf (d + 1)) (R : r_l G X K) {μ : m_M} {a1 : Int} {a2 : Int}
    (h : ((a1 < 1000) → (0 ≤ a2 ∧ a2 < 64) ∧ ∀ x1 : Int, x1 = μ 5 2 a2.toNat → (0 ≤ w32 (a2 + 1) ∧ w32 (a2 + 1) < 64) ∧ ∀ x2 : Int, x2 = μ 5 2 (w32 (a2 + 1)).toNat → ∀ x3 : Int, x3 = w32 (a1 - 256) → ((a1 = 37) → ((¬ x2 = 0) → c_i G d YJ9_floorMod_7cf53 [vI x1, vI x2] μ (fun r5 μ4 => K r5 μ4)) ∧ ((x2 = 0) → K 0 μ)) ∧ ((a1 = 42) → K (w64 (x1 * x2)) μ) ∧ ((a1 = 43) → K (w32 (x1 + x2)) μ) ∧ ((a1 = 45) → K (w32 (x1 - x2)) μ) ∧ ((a1 = 47) → ((¬ x2 = 0) → c_i G d YJ9_floorDiv_7cf53 [vI x1, vI x2] μ (fun r7 μ6 => K r7 μ6)) ∧ ((x2 = 0) → K 0 μ)) ∧ ((a1 = 60) → ((x2 ≤ x1) → K 0 μ) ∧ ((¬ x2 ≤ x1) → K 1 μ)) ∧ ((a1 = 61) → ((¬ x1 = x2) → K 0 μ) ∧ ((x1 = x2) → K 1 μ)) ∧ ((a1 = 62) → ((x1 ≤ x2) → K 0 μ) ∧ ((¬ x1 ≤ x2) → K 1 μ)) ∧ ((a1 = 275) → ((x1 = 0) → (0 ≤ w32 (a2 + 2) ∧ w32 (a2 + 2) < 64) ∧ K (μ 5 2 (w32 (a2 + 2)).toNat) μ) ∧ ((¬ x1 = 0) → K x2 μ)) ∧ ((a1 = 276) → K (i_or x1 x2) μ) ∧ ((a1 = 277) → K (i_and x1 x2) μ) ∧ ((a1 = 278) → K (w32 (1 - x1)) μ) ∧ ((a1 = 279) → K 1 μ) ∧ ((a1 = 280) → K (if x2 < x1 then x2 else x1) μ) ∧ ((a1 = 281) → K (if x1 < x2 then x2 else x1) μ) ∧ ((¬ a1 = 37 ∧ ¬ a1 = 42 ∧ ¬ a1 = 43 ∧ ¬ a1 = 45 ∧ ¬ a1 = 47 ∧ ¬ a1 = 60 ∧ ¬ a1 = 61 ∧ ¬ a1 = 62 ∧ ¬ a1 = 275 ∧ ¬ a1 = 276 ∧ ¬ a1 = 277 ∧ ¬ a1 = 278 ∧ ¬ a1 = 279 ∧ ¬ a1 = 280 ∧ ¬ a1 = 281) → ((x3 < 0) → K 0 μ) ∧ ((¬ x3 < 0) → ((26 ≤ x3) → K 0 μ) ∧ ((¬ 26 ≤ x3) → (0 ≤ x3 ∧ x3 < 26) ∧ K (μ 5 1 x3.toNat) μ)))) ∧ ((¬ a1 < 1000) → K (w32 (a1 - 1000)) μ)) :
    mW G X YX5_resultOf μ 0 [some (vR 5 0), some (vI a1), some (vI a2), none, none, none] [] := by
  refine m_iload_n C dX5_resultOf_0 rfl ?_
  refine m_sipush C dX5_resultOf_1 (by omega) ?_
  refine m_icmp_lt (tgt := 14) C dX5_resultOf_4 (by decide) (fun c => ?_) (fun c => ?_)
  · have h := h.1 c
    refine m_aload_n C dX5_resultOf_14 rfl ?_
    refine f_getA C dX5_resultOf_15 fl_KilnBench_Machine_17 rfl (by decide) (by decide) (by decide) (by decide) ?_
    refine m_iload_n C dX5_resultOf_18 rfl ?_
    obtain ⟨hb, h⟩ := h
    refine f_iald C dX5_resultOf_19 (m_arO (a := 0) (len := 64) rfl rfl) (by decide) hb ?_
    refine n_istore_n (fun x1 => [some (vR 5 0), some (vI a1), some (vI a2), some (vI x1), none, none]) C dX5_resultOf_20 (by decide) (fun _ => rfl) (fun x1 ex1 => ?_)
    have h := h x1 ex1
    refine m_aload_n C dX5_resultOf_21 rfl ?_
    refine f_getA C dX5_resultOf_22 fl_KilnBench_Machine_17 rfl (by decide) (by decide) (by decide) (by decide) ?_
    refine m_iload_n C dX5_resultOf_25 rfl ?_
    refine m_iconst C dX5_resultOf_26 (by unfold in32; omega) ?_
    refine m_iadd C dX5_resultOf_27 ?_
    obtain ⟨hb, h⟩ := h
    refine f_iald C dX5_resultOf_28 (m_arO (a := 0) (len := 64) rfl rfl) (by decide) hb ?_
    refine n_istore (fun x2 => [some (vR 5 0), some (vI a1), some (vI a2), some (vI x1), some (vI x2), none]) C dX5_resultOf_29 (by decide) (fun _ => rfl) (fun x2 ex2 => ?_)
    have h := h x2 ex2
    refine m_iload_n C dX5_resultOf_31 rfl ?_
    refine m_sipush C dX5_resultOf_32 (by omega) ?_
    refine m_isub C dX5_resultOf_35 ?_
    refine n_istore (fun x3 => [some (vR 5 0), some (vI a1), some (vI a2), some (vI x1), some (vI x2), some (vI x3)]) C dX5_resultOf_36 (by decide) (fun _ => rfl) (fun x3 ex3 => ?_)
    have h := h x3 ex3
    refine m_iload_n C dX5_resultOf_38 rfl ?_
    by_cases hx0 : a1 = 37
    · have h := h.1 hx0
      refine m_lsw (tgt := 204) (off := 165) C dX5_resultOf_39 (by decide) (by rw [hx0]; decide) (by decide) ?_
      refine m_iload C dX5_resultOf_204 rfl ?_
      refine m_if_ne (tgt := 213) C dX5_resultOf_206 (by decide) (fun c => ?_) (fun c => ?_)
      · have h := h.1 c
        refine m_iload_n C dX5_resultOf_213 rfl ?_
        refine m_iload C dX5_resultOf_214 rfl ?_
        refine f_callSi (As := [vI x1, vI x2]) (st := []) C dX5_resultOf_216 ml_KilnBench_Machine_56 rfl rfl (Nat.le_of_ble_eq_true rfl) h (fun r5 μ4 h => ?_)
        refine m_i2l C dX5_resultOf_219 ?_
        exact f_lret C R rfl dX5_resultOf_220 h
      · have h := h.2 c
        refine m_lconst (x := 0) C dX5_resultOf_209 rfl ?_
        refine m_goto (tgt := 220) C dX5_resultOf_210 (by decide) ?_
        exact f_lret C R rfl dX5_resultOf_220 h
    by_cases hx1 : a1 = 42
    · have h := h.2.1 hx1
      refine m_lsw (tgt := 180) (off := 141) C dX5_resultOf_39 (by decide) (by rw [hx1]; decide) (by decide) ?_
      refine m_iload_n C dX5_resultOf_180 rfl ?_
      refine m_i2l C dX5_resultOf_181 ?_
      refine m_iload C dX5_resultOf_182 rfl ?_
      refine m_i2l C dX5_resultOf_184 ?_
      refine m_lmul C dX5_resultOf_185 ?_
      exact f_lret C R rfl dX5_resultOf_186 h
    by_cases hx2 : a1 = 43
    · have h := h.2.2.1 hx2
      refine m_lsw (tgt := 168) (off := 129) C dX5_resultOf_39 (by decide) (by rw [hx2]; decide) (by decide) ?_
      refine m_iload_n C dX5_resultOf_168 rfl ?_
      refine m_iload C dX5_resultOf_169 rfl ?_
      refine m_iadd C dX5_resultOf_171 ?_
      refine m_i2l C dX5_resultOf_172 ?_
      exact f_lret C R rfl dX5_resultOf_173 h
    by_cases hx3 : a1 = 45
    · have h := h.2.2.2.1 hx3
      refine m_lsw (tgt := 174) (off := 135) C dX5_resultOf_39 (by decide) (by rw [hx3]; decide) (by decide) ?_
      refine m_iload_n C dX5_resultOf_174 rfl ?_
      refine m_iload C dX5_resultOf_175 rfl ?_
      refine m_isub C dX5_resultOf_177 ?_
      refine m_i2l C dX5_resultOf_178 ?_
      exact f_lret C R rfl dX5_resultOf_179 h
    by_cases hx4 : a1 = 47
    · have h := h.2.2.2.2.1 hx4
      refine m_lsw (tgt := 187) (off := 148) C dX5_resultOf_39 (by decide) (by rw [hx4]; decide) (by decide) ?_
      refine m_iload C dX5_resultOf_187 rfl ?_
      refine m_if_ne (tgt := 196) C dX5_resultOf_189 (by decide) (fun c => ?_) (fun c => ?_)
      · have h := h.1 c
        refine m_iload_n C dX5_resultOf_196 rfl ?_
        refine m_iload C dX5_resultOf_197 rfl ?_
        refine f_callSi (As := [vI x1, vI x2]) (st := []) C dX5_resultOf_199 ml_KilnBench_Machine_52 rfl rfl (Nat.le_of_ble_eq_true rfl) h (fun r7 μ6 h => ?_)
        refine m_i2l C dX5_resultOf_202 ?_
        exact f_lret C R rfl dX5_resultOf_203 h
      · have h := h.2 c
        refine m_lconst (x := 0) C dX5_resultOf_192 rfl ?_
        refine m_goto (tgt := 203) C dX5_resultOf_193 (by decide) ?_
        exact f_lret C R rfl dX5_resultOf_203 h
    by_cases hx5 : a1 = 60
    · have h := h.2.2.2.2.2.1 hx5
      refine m_lsw (tgt := 221) (off := 182) C dX5_resultOf_39 (by decide) (by rw [hx5]; decide) (by decide) ?_
      refine m_iload_n C dX5_resultOf_221 rfl ?_
      refine m_iload C dX5_resultOf_222 rfl ?_
      refine m_icmp_ge (tgt := 231) C dX5_resultOf_224 (by decide) (fun c => ?_) (fun c => ?_)
      · have h := h.1 c
        refine m_lconst (x := 0) C dX5_resultOf_231 rfl ?_
        exact f_lret C R rfl dX5_resultOf_232 h
      · have h := h.2 c
        refine m_lconst (x := 1) C dX5_resultOf_227 rfl ?_
        refine m_goto (tgt := 232) C dX5_resultOf_228 (by decide) ?_
        exact f_lret C R rfl dX5_resultOf_232 h
    by_cases hx6 : a1 = 61
    · have h := h.2.2.2.2.2.2.1 hx6
      refine m_lsw (tgt := 245) (off := 206) C dX5_resultOf_39 (by decide) (by rw [hx6]; decide) (by decide) ?_
      refine m_iload_n C dX5_resultOf_245 rfl ?_
      refine m_iload C dX5_resultOf_246 rfl ?_
      refine m_icmp_ne (tgt := 255) C dX5_resultOf_248 (by decide) (fun c => ?_) (fun c => ?_)
      · have h := h.1 c
        refine m_lconst (x := 0) C dX5_resultOf_255 rfl ?_
        exact f_lret C R rfl dX5_resultOf_256 h
      · have h := h.2 c
        refine m_lconst (x := 1) C dX5_resultOf_251 rfl ?_
        refine m_goto (tgt := 256) C dX5_resultOf_252 (by decide) ?_
        exact f_lret C R rfl dX5_resultOf_256 h
    by_cases hx7 : a1 = 62
    · have h := h.2.2.2.2.2.2.2.1 hx7
      refine m_lsw (tgt := 233) (off := 194) C dX5_resultOf_39 (by decide) (by rw [hx7]; decide) (by decide) ?_
      refine m_iload_n C dX5_resultOf_233 rfl ?_
      refine m_iload C dX5_resultOf_234 rfl ?_
      refine m_icmp_le (tgt := 243) C dX5_resultOf_236 (by decide) (fun c => ?_) (fun c => ?_)
      · have h := h.1 c
        refine m_lconst (x := 0) C dX5_resultOf_243 rfl ?_
        exact f_lret C R rfl dX5_resultOf_244 h
      · have h := h.2 c
        refine m_lconst (x := 1) C dX5_resultOf_239 rfl ?_
        refine m_goto (tgt := 244) C dX5_resultOf_240 (by decide) ?_
        exact f_lret C R rfl dX5_resultOf_244 h
    by_cases hx8 : a1 = 275
    · have h := h.2.2.2.2.2.2.2.2.1 hx8
      refine m_lsw (tgt := 273) (off := 234) C dX5_resultOf_39 (by decide) (by rw [hx8]; decide) (by decide) ?_
      refine m_iload_n C dX5_resultOf_273 rfl ?_
      refine m_if_eq (tgt := 283) C dX5_resultOf_274 (by decide) (fun c => ?_) (fun c => ?_)
      · have h := h.1 c
        refine m_aload_n C dX5_resultOf_283 rfl ?_
        refine f_getA C dX5_resultOf_284 fl_KilnBench_Machine_17 rfl (by decide) (by decide) (by decide) (by decide) ?_
        refine m_iload_n C dX5_resultOf_287 rfl ?_
        refine m_iconst C dX5_resultOf_288 (by unfold in32; omega) ?_
        refine m_iadd C dX5_resultOf_289 ?_
        obtain ⟨hb, h⟩ := h
        refine f_iald C dX5_resultOf_290 (m_arO (a := 0) (len := 64) rfl rfl) (by decide) hb ?_
        refine m_i2l C dX5_resultOf_291 ?_
        exact f_lret C R rfl dX5_resultOf_292 h
      · have h := h.2 c
        refine m_iload C dX5_resultOf_277 rfl ?_
        refine m_i2l C dX5_resultOf_279 ?_
        refine m_goto (tgt := 292) C dX5_resultOf_280 (by decide) ?_
        exact f_lret C R rfl dX5_resultOf_292 h
    by_cases hx9 : a1 = 276
    · have h := h.2.2.2.2.2.2.2.2.2.1 hx9
      refine m_lsw (tgt := 293) (off := 254) C dX5_resultOf_39 (by decide) (by rw [hx9]; decide) (by decide) ?_
      refine m_iload_n C dX5_resultOf_293 rfl ?_
      refine m_iload C dX5_resultOf_294 rfl ?_
      refine m_ior C dX5_resultOf_296 ?_
      refine m_i2l C dX5_resultOf_297 ?_
      exact f_lret C R rfl dX5_resultOf_298 h
    by_cases hx10 : a1 = 277
    · have h := h.2.2.2.2.2.2.2.2.2.2.1 hx10
      refine m_lsw (tgt := 299) (off := 260) C dX5_resultOf_39 (by decide) (by rw [hx10]; decide) (by decide) ?_
      refine m_iload_n C dX5_resultOf_299 rfl ?_
      refine m_iload C dX5_resultOf_300 rfl ?_
      refine m_iand C dX5_resultOf_302 ?_
      refine m_i2l C dX5_resultOf_303 ?_
      exact f_lret C R rfl dX5_resultOf_304 h
    by_cases hx11 : a1 = 278
    · have h := h.2.2.2.2.2.2.2.2.2.2.2.1 hx11
      refine m_lsw (tgt := 305) (off := 266) C dX5_resultOf_39 (by decide) (by rw [hx11]; decide) (by decide) ?_
      refine m_iconst C dX5_resultOf_305 (by unfold in32; omega) ?_
      refine m_iload_n C dX5_resultOf_306 rfl ?_
      refine m_isub C dX5_resultOf_307 ?_
      refine m_i2l C dX5_resultOf_308 ?_
      exact f_lret C R rfl dX5_resultOf_309 h
    by_cases hx12 : a1 = 279
    · have h := h.2.2.2.2.2.2.2.2.2.2.2.2.1 hx12
      refine m_lsw (tgt := 310) (off := 271) C dX5_resultOf_39 (by decide) (by rw [hx12]; decide) (by decide) ?_
      refine m_lconst (x := 1) C dX5_resultOf_310 rfl ?_
      exact f_lret C R rfl dX5_resultOf_311 h
    by_cases hx13 : a1 = 280
    · have h := h.2.2.2.2.2.2.2.2.2.2.2.2.2.1 hx13
      refine m_lsw (tgt := 257) (off := 218) C dX5_resultOf_39 (by decide) (by rw [hx13]; decide) (by decide) ?_
      refine m_iload_n C dX5_resultOf_257 rfl ?_
      refine m_iload C dX5_resultOf_258 rfl ?_
      refine m_mmin C dX5_resultOf_260 mi_KilnBench_Machine_59 mb_mmins mb_ini mb_mmin (Nat.le_of_ble_eq_true rfl) (Nat.le_refl _) (Nat.le_refl _) ?_
      refine m_i2l C dX5_resultOf_263 ?_
      exact f_lret C R rfl dX5_resultOf_264 h
    by_cases hx14 : a1 = 281
    · have h := h.2.2.2.2.2.2.2.2.2.2.2.2.2.2.1 hx14
      refine m_lsw (tgt := 265) (off := 226) C dX5_resultOf_39 (by decide) (by rw [hx14]; decide) (by decide) ?_
      refine m_iload_n C dX5_resultOf_265 rfl ?_
      refine m_iload C dX5_resultOf_266 rfl ?_
      refine m_mmax C dX5_resultOf_268 mi_KilnBench_Machine_61 mb_mmaxs mb_ini mb_mmax (Nat.le_of_ble_eq_true rfl) (Nat.le_refl _) (Nat.le_refl _) ?_
      refine m_i2l C dX5_resultOf_271 ?_
      exact f_lret C R rfl dX5_resultOf_272 h
    have h := h.2.2.2.2.2.2.2.2.2.2.2.2.2.2.2 ⟨hx0, hx1, hx2, hx3, hx4, hx5, hx6, hx7, hx8, hx9, hx10, hx11, hx12, hx13, hx14⟩
    refine m_lsw (tgt := 312) (off := 273) C dX5_resultOf_39 (by decide) (by simp only [Op.lookupswitch.offset]; rw [if_neg (fun e => hx0 e.symm), if_neg (fun e => hx1 e.symm), if_neg (fun e => hx2 e.symm), if_neg (fun e => hx3 e.symm), if_neg (fun e => hx4 e.symm), if_neg (fun e => hx5 e.symm), if_neg (fun e => hx6 e.symm), if_neg (fun e => hx7 e.symm), if_neg (fun e => hx8 e.symm), if_neg (fun e => hx9 e.symm), if_neg (fun e => hx10 e.symm), if_neg (fun e => hx11 e.symm), if_neg (fun e => hx12 e.symm), if_neg (fun e => hx13 e.symm), if_neg (fun e => hx14 e.symm)]) (by decide) ?_
    refine m_iload C dX5_resultOf_312 rfl ?_
    refine m_if_lt (tgt := 338) C dX5_resultOf_314 (by decide) (fun c => ?_) (fun c => ?_)
    · have h := h.1 c
      refine m_lconst (x := 0) C dX5_resultOf_338 rfl ?_
      exact f_lret C R rfl dX5_resultOf_339 h
    · have h := h.2 c
      refine m_iload C dX5_resultOf_317 rfl ?_
      refine m_aload_n C dX5_resultOf_319 rfl ?_
      refine f_getA C dX5_resultOf_320 fl_KilnBench_Machine_11 rfl (by decide) (by decide) (by decide) (by decide) ?_
      refine f_alen C dX5_resultOf_323 (m_arO (a := 0) (len := 26) rfl rfl) (by decide) (by decide) (by decide) ?_
      refine m_icmp_ge (tgt := 338) C dX5_resultOf_324 (by decide) (fun c => ?_) (fun c => ?_)
      · have h := h.1 c
        refine m_lconst (x := 0) C dX5_resultOf_338 rfl ?_
        exact f_lret C R rfl dX5_resultOf_339 h
      · have h := h.2 c
        refine m_aload_n C dX5_resultOf_327 rfl ?_
        refine f_getA C dX5_resultOf_328 fl_KilnBench_Machine_11 rfl (by decide) (by decide) (by decide) (by decide) ?_
        refine m_iload C dX5_resultOf_331 rfl ?_
        obtain ⟨hb, h⟩ := h
        refine f_iald C dX5_resultOf_333 (m_arO (a := 0) (len := 26) rfl rfl) (by decide) hb ?_
        refine m_i2l C dX5_resultOf_334 ?_
        refine m_goto (tgt := 339) C dX5_resultOf_335 (by decide) ?_
        exact f_lret C R rfl dX5_resultOf_339 h
  · have h := h.2 c
    refine m_iload_n C dX5_resultOf_7 rfl ?_
    refine m_sipush C dX5_resultOf_8 (by omega) ?_
    refine m_isub C dX5_resultOf_11 ?_
    refine m_i2l C dX5_resultOf_12 ?_
    exact f_lret C R rfl dX5_resultOf_13 h

