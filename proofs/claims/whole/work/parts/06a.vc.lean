set_option maxRecDepth 20000 in
theorem VX0_begin_0 {G : m_G} {X : m_X} {d : Nat} {K : m_M → Prop} (C : mC G X YX0_begin (d + 1)) (R : r_v G X K) {μ : m_M} {o : Nat} {a1 : Nat} (hc_o : m_cls o = 0) (hc_a1 : m_cls a1 = 9)
    (h : ∀ μ1 : m_M, μ1 = m_up μ o 0 0 0 → ∀ μ2 : m_M, μ2 = m_up μ1 o 0 1 (μ1 a1 0 7) → ∀ μ3 : m_M, μ3 = m_up μ2 o 0 9 0 → c_v G d YJ7_fill_53178 [vR o 3, vI (-1)] μ3 (fun μ4 => c_v G d YJ7_fill_53178 [vR o 4, vI (-1)] μ4 (fun μ5 => c_v G d YJ7_fill_53178 [vR o 5, vI (-1)] μ5 (fun μ6 => c_v G d YJ7_fill_53178 [vR o 6, vI 0] μ6 (fun μ7 => c_v G d YJ7_fill_53178 [vR o 7, vI 0] μ7 (fun μ8 => c_v G d YJ7_fill_53178 [vR o 8, vI (-1)] μ8 (fun μ9 => K μ9))))))) :
    mW G X YX0_begin μ 0 [some (vR o 0), some (vR a1 0)] [] := by
  refine m_aload_n C dX0_begin_0 rfl ?_
  refine m_iconst C dX0_begin_1 (by unfold in32; omega) ?_
  refine f_putI C dX0_begin_2 fl_KilnBench_Bench_9 hc_o (by decide) (by decide) (by decide) ?_
  refine n_mem (fun μ1 eμ1 => ?_)
  have h := h μ1 eμ1
  refine m_aload_n C dX0_begin_5 rfl ?_
  refine m_aload_n C dX0_begin_6 rfl ?_
  refine f_getI C dX0_begin_7 fl_KilnBench_Bench_43 hc_a1 (by decide) (by decide) ?_
  refine f_putI C dX0_begin_10 fl_KilnBench_Bench_15 hc_o (by decide) (by decide) (by decide) ?_
  refine n_mem (fun μ2 eμ2 => ?_)
  have h := h μ2 eμ2
  refine m_aload_n C dX0_begin_13 rfl ?_
  refine m_iconst C dX0_begin_14 (by unfold in32; omega) ?_
  refine f_putI C dX0_begin_15 fl_KilnBench_Bench_40 hc_o (by decide) (by decide) (by decide) ?_
  refine n_mem (fun μ3 eμ3 => ?_)
  have h := h μ3 eμ3
  refine m_aload_n C dX0_begin_18 rfl ?_
  refine f_getA C dX0_begin_19 fl_KilnBench_Bench_18 hc_o (by decide) (by decide) (by decide) (by decide) ?_
  refine m_iconst C dX0_begin_22 (by unfold in32; omega) ?_
  refine f_callSv (As := [vR o 3, vI (-1)]) (st := []) C dX0_begin_23 ml_KilnBench_Bench_48 rfl rfl (Nat.le_of_ble_eq_true rfl) h (fun μ4 h => ?_)
  refine m_aload_n C dX0_begin_26 rfl ?_
  refine f_getA C dX0_begin_27 fl_KilnBench_Bench_22 hc_o (by decide) (by decide) (by decide) (by decide) ?_
  refine m_iconst C dX0_begin_30 (by unfold in32; omega) ?_
  refine f_callSv (As := [vR o 4, vI (-1)]) (st := []) C dX0_begin_31 ml_KilnBench_Bench_48 rfl rfl (Nat.le_of_ble_eq_true rfl) h (fun μ5 h => ?_)
  refine m_aload_n C dX0_begin_34 rfl ?_
  refine f_getA C dX0_begin_35 fl_KilnBench_Bench_25 hc_o (by decide) (by decide) (by decide) (by decide) ?_
  refine m_iconst C dX0_begin_38 (by unfold in32; omega) ?_
  refine f_callSv (As := [vR o 5, vI (-1)]) (st := []) C dX0_begin_39 ml_KilnBench_Bench_48 rfl rfl (Nat.le_of_ble_eq_true rfl) h (fun μ6 h => ?_)
  refine m_aload_n C dX0_begin_42 rfl ?_
  refine f_getA C dX0_begin_43 fl_KilnBench_Bench_28 hc_o (by decide) (by decide) (by decide) (by decide) ?_
  refine m_iconst C dX0_begin_46 (by unfold in32; omega) ?_
  refine f_callSv (As := [vR o 6, vI 0]) (st := []) C dX0_begin_47 ml_KilnBench_Bench_48 rfl rfl (Nat.le_of_ble_eq_true rfl) h (fun μ7 h => ?_)
  refine m_aload_n C dX0_begin_50 rfl ?_
  refine f_getA C dX0_begin_51 fl_KilnBench_Bench_31 hc_o (by decide) (by decide) (by decide) (by decide) ?_
  refine m_iconst C dX0_begin_54 (by unfold in32; omega) ?_
  refine f_callSv (As := [vR o 7, vI 0]) (st := []) C dX0_begin_55 ml_KilnBench_Bench_48 rfl rfl (Nat.le_of_ble_eq_true rfl) h (fun μ8 h => ?_)
  refine m_aload_n C dX0_begin_58 rfl ?_
  refine f_getA C dX0_begin_59 fl_KilnBench_Bench_34 hc_o (by decide) (by decide) (by decide) (by decide) ?_
  refine m_iconst C dX0_begin_62 (by unfold in32; omega) ?_
  refine f_callSv (As := [vR o 8, vI (-1)]) (st := []) C dX0_begin_63 ml_KilnBench_Bench_48 rfl rfl (Nat.le_of_ble_eq_true rfl) h (fun μ9 h => ?_)
  exact f_vret C R rfl dX0_begin_66 h

set_option maxRecDepth 20000 in
theorem VX0_copyFrom_0 {G : m_G} {X : m_X} {d : Nat} {K : m_M → Prop} (C : mC G X YX0_copyFrom (d + 1)) (R : r_v G X K) {μ : m_M} {o : Nat} {a1 : Nat} (hc_o : m_cls o = 0) (hc_a1 : m_cls a1 = 0)
    (h : ∀ μ1 : m_M, μ1 = m_up μ o 0 0 (μ a1 0 0) → ∀ μ2 : m_M, μ2 = m_up μ1 o 0 1 (μ1 a1 0 1) → ∀ μ3 : m_M, μ3 = m_up μ2 o 0 9 (μ2 a1 0 9) → ∀ μ4 : m_M, μ4 = m_cp μ3 a1 3 0 o 3 0 8 → ∀ μ5 : m_M, μ5 = m_cp μ4 a1 4 0 o 4 0 8 → ∀ μ6 : m_M, μ6 = m_cp μ5 a1 5 0 o 5 0 8 → ∀ μ7 : m_M, μ7 = m_cp μ6 a1 6 0 o 6 0 8 → ∀ μ8 : m_M, μ8 = m_cp μ7 a1 7 0 o 7 0 8 → ∀ μ9 : m_M, μ9 = m_cp μ8 a1 8 0 o 8 0 3 → ((0 : Int) ≤ 0 ∧ (0 : Int) ≤ 0 ∧ 0 ≤ w32 ((μ9 o 0 9) * 4) ∧ 0 + (w32 ((μ9 o 0 9) * 4)) ≤ 32 ∧ 0 + (w32 ((μ9 o 0 9) * 4)) ≤ 32) ∧ ∀ μ10 : m_M, μ10 = m_cp μ9 a1 9 0 o 9 0 (w32 ((μ9 o 0 9) * 4)).toNat → K μ10) :
    mW G X YX0_copyFrom μ 0 [some (vR o 0), some (vR a1 0)] [] := by
  refine m_aload_n C dX0_copyFrom_0 rfl ?_
  refine m_aload_n C dX0_copyFrom_1 rfl ?_
  refine f_getI C dX0_copyFrom_2 fl_KilnBench_Bench_9 hc_a1 (by decide) (by decide) ?_
  refine f_putI C dX0_copyFrom_5 fl_KilnBench_Bench_9 hc_o (by decide) (by decide) (by decide) ?_
  refine n_mem (fun μ1 eμ1 => ?_)
  have h := h μ1 eμ1
  refine m_aload_n C dX0_copyFrom_8 rfl ?_
  refine m_aload_n C dX0_copyFrom_9 rfl ?_
  refine f_getI C dX0_copyFrom_10 fl_KilnBench_Bench_15 hc_a1 (by decide) (by decide) ?_
  refine f_putI C dX0_copyFrom_13 fl_KilnBench_Bench_15 hc_o (by decide) (by decide) (by decide) ?_
  refine n_mem (fun μ2 eμ2 => ?_)
  have h := h μ2 eμ2
  refine m_aload_n C dX0_copyFrom_16 rfl ?_
  refine m_aload_n C dX0_copyFrom_17 rfl ?_
  refine f_getI C dX0_copyFrom_18 fl_KilnBench_Bench_40 hc_a1 (by decide) (by decide) ?_
  refine f_putI C dX0_copyFrom_21 fl_KilnBench_Bench_40 hc_o (by decide) (by decide) (by decide) ?_
  refine n_mem (fun μ3 eμ3 => ?_)
  have h := h μ3 eμ3
  refine m_aload_n C dX0_copyFrom_24 rfl ?_
  refine f_getA C dX0_copyFrom_25 fl_KilnBench_Bench_18 hc_a1 (by decide) (by decide) (by decide) (by decide) ?_
  refine m_iconst C dX0_copyFrom_28 (by unfold in32; omega) ?_
  refine m_aload_n C dX0_copyFrom_29 rfl ?_
  refine f_getA C dX0_copyFrom_30 fl_KilnBench_Bench_18 hc_o (by decide) (by decide) (by decide) (by decide) ?_
  refine m_iconst C dX0_copyFrom_33 (by unfold in32; omega) ?_
  refine m_bipush C dX0_copyFrom_34 (by omega) ?_
  refine f_copy C dX0_copyFrom_36 ma_KilnBench_Bench_54 ma_n ma_s ma_i (m_arO (a := 0) (len := 8) hc_a1 rfl) (by decide) (m_arO (a := 0) (len := 8) hc_o rfl) (by decide) (Nat.le_of_ble_eq_true rfl) (by decide) ?_
  refine n_mem (fun μ4 eμ4 => ?_)
  have h := h μ4 eμ4
  refine m_aload_n C dX0_copyFrom_39 rfl ?_
  refine f_getA C dX0_copyFrom_40 fl_KilnBench_Bench_22 hc_a1 (by decide) (by decide) (by decide) (by decide) ?_
  refine m_iconst C dX0_copyFrom_43 (by unfold in32; omega) ?_
  refine m_aload_n C dX0_copyFrom_44 rfl ?_
  refine f_getA C dX0_copyFrom_45 fl_KilnBench_Bench_22 hc_o (by decide) (by decide) (by decide) (by decide) ?_
  refine m_iconst C dX0_copyFrom_48 (by unfold in32; omega) ?_
  refine m_bipush C dX0_copyFrom_49 (by omega) ?_
  refine f_copy C dX0_copyFrom_51 ma_KilnBench_Bench_54 ma_n ma_s ma_i (m_arO (a := 0) (len := 8) hc_a1 rfl) (by decide) (m_arO (a := 0) (len := 8) hc_o rfl) (by decide) (Nat.le_of_ble_eq_true rfl) (by decide) ?_
  refine n_mem (fun μ5 eμ5 => ?_)
  have h := h μ5 eμ5
  refine m_aload_n C dX0_copyFrom_54 rfl ?_
  refine f_getA C dX0_copyFrom_55 fl_KilnBench_Bench_25 hc_a1 (by decide) (by decide) (by decide) (by decide) ?_
  refine m_iconst C dX0_copyFrom_58 (by unfold in32; omega) ?_
  refine m_aload_n C dX0_copyFrom_59 rfl ?_
  refine f_getA C dX0_copyFrom_60 fl_KilnBench_Bench_25 hc_o (by decide) (by decide) (by decide) (by decide) ?_
  refine m_iconst C dX0_copyFrom_63 (by unfold in32; omega) ?_
  refine m_bipush C dX0_copyFrom_64 (by omega) ?_
  refine f_copy C dX0_copyFrom_66 ma_KilnBench_Bench_54 ma_n ma_s ma_i (m_arO (a := 0) (len := 8) hc_a1 rfl) (by decide) (m_arO (a := 0) (len := 8) hc_o rfl) (by decide) (Nat.le_of_ble_eq_true rfl) (by decide) ?_
  refine n_mem (fun μ6 eμ6 => ?_)
  have h := h μ6 eμ6
  refine m_aload_n C dX0_copyFrom_69 rfl ?_
  refine f_getA C dX0_copyFrom_70 fl_KilnBench_Bench_28 hc_a1 (by decide) (by decide) (by decide) (by decide) ?_
  refine m_iconst C dX0_copyFrom_73 (by unfold in32; omega) ?_
  refine m_aload_n C dX0_copyFrom_74 rfl ?_
  refine f_getA C dX0_copyFrom_75 fl_KilnBench_Bench_28 hc_o (by decide) (by decide) (by decide) (by decide) ?_
  refine m_iconst C dX0_copyFrom_78 (by unfold in32; omega) ?_
  refine m_bipush C dX0_copyFrom_79 (by omega) ?_
  refine f_copy C dX0_copyFrom_81 ma_KilnBench_Bench_54 ma_n ma_s ma_i (m_arO (a := 0) (len := 8) hc_a1 rfl) (by decide) (m_arO (a := 0) (len := 8) hc_o rfl) (by decide) (Nat.le_of_ble_eq_true rfl) (by decide) ?_
  refine n_mem (fun μ7 eμ7 => ?_)
  have h := h μ7 eμ7
  refine m_aload_n C dX0_copyFrom_84 rfl ?_
  refine f_getA C dX0_copyFrom_85 fl_KilnBench_Bench_31 hc_a1 (by decide) (by decide) (by decide) (by decide) ?_
  refine m_iconst C dX0_copyFrom_88 (by unfold in32; omega) ?_
  refine m_aload_n C dX0_copyFrom_89 rfl ?_
  refine f_getA C dX0_copyFrom_90 fl_KilnBench_Bench_31 hc_o (by decide) (by decide) (by decide) (by decide) ?_
  refine m_iconst C dX0_copyFrom_93 (by unfold in32; omega) ?_
  refine m_bipush C dX0_copyFrom_94 (by omega) ?_
  refine f_copy C dX0_copyFrom_96 ma_KilnBench_Bench_54 ma_n ma_s ma_i (m_arO (a := 0) (len := 8) hc_a1 rfl) (by decide) (m_arO (a := 0) (len := 8) hc_o rfl) (by decide) (Nat.le_of_ble_eq_true rfl) (by decide) ?_
  refine n_mem (fun μ8 eμ8 => ?_)
  have h := h μ8 eμ8
  refine m_aload_n C dX0_copyFrom_99 rfl ?_
  refine f_getA C dX0_copyFrom_100 fl_KilnBench_Bench_34 hc_a1 (by decide) (by decide) (by decide) (by decide) ?_
  refine m_iconst C dX0_copyFrom_103 (by unfold in32; omega) ?_
  refine m_aload_n C dX0_copyFrom_104 rfl ?_
  refine f_getA C dX0_copyFrom_105 fl_KilnBench_Bench_34 hc_o (by decide) (by decide) (by decide) (by decide) ?_
  refine m_iconst C dX0_copyFrom_108 (by unfold in32; omega) ?_
  refine m_iconst C dX0_copyFrom_109 (by unfold in32; omega) ?_
  refine f_copy C dX0_copyFrom_110 ma_KilnBench_Bench_54 ma_n ma_s ma_i (m_arO (a := 0) (len := 3) hc_a1 rfl) (by decide) (m_arO (a := 0) (len := 3) hc_o rfl) (by decide) (Nat.le_of_ble_eq_true rfl) (by decide) ?_
  refine n_mem (fun μ9 eμ9 => ?_)
  have h := h μ9 eμ9
  refine m_aload_n C dX0_copyFrom_113 rfl ?_
  refine f_getA C dX0_copyFrom_114 fl_KilnBench_Bench_37 hc_a1 (by decide) (by decide) (by decide) (by decide) ?_
  refine m_iconst C dX0_copyFrom_117 (by unfold in32; omega) ?_
  refine m_aload_n C dX0_copyFrom_118 rfl ?_
  refine f_getA C dX0_copyFrom_119 fl_KilnBench_Bench_37 hc_o (by decide) (by decide) (by decide) (by decide) ?_
  refine m_iconst C dX0_copyFrom_122 (by unfold in32; omega) ?_
  refine m_aload_n C dX0_copyFrom_123 rfl ?_
  refine f_getI C dX0_copyFrom_124 fl_KilnBench_Bench_40 hc_o (by decide) (by decide) ?_
  refine m_iconst C dX0_copyFrom_127 (by unfold in32; omega) ?_
  refine m_imul C dX0_copyFrom_128 ?_
  obtain ⟨hb, h⟩ := h
  refine f_copy C dX0_copyFrom_129 ma_KilnBench_Bench_54 ma_n ma_s ma_i (m_arO (a := 0) (len := 32) hc_a1 rfl) (by decide) (m_arO (a := 0) (len := 32) hc_o rfl) (by decide) (Nat.le_of_ble_eq_true rfl) hb ?_
  refine n_mem (fun μ10 eμ10 => ?_)
  have h := h μ10 eμ10
  exact f_vret C R rfl dX0_copyFrom_132 h

set_option maxRecDepth 20000 in
theorem VX0_isFired_0 {G : m_G} {X : m_X} {d : Nat} {K : Int → m_M → Prop} (C : mC G X YX0_isFired (d + 1)) (R : r_i G X K) {μ : m_M} {o : Nat} {a1 : Int} (hc_o : m_cls o = 0)
    (h : (0 ≤ a1 ∧ a1 < 8) ∧ ((μ o 5 a1.toNat = (-1)) → K 0 μ) ∧ ((¬ μ o 5 a1.toNat = (-1)) → K 1 μ)) :
    mW G X YX0_isFired μ 0 [some (vR o 0), some (vI a1)] [] := by
  refine m_aload_n C dX0_isFired_0 rfl ?_
  refine f_getA C dX0_isFired_1 fl_KilnBench_Bench_25 hc_o (by decide) (by decide) (by decide) (by decide) ?_
  refine m_iload_n C dX0_isFired_4 rfl ?_
  obtain ⟨hb, h⟩ := h
  refine f_iald C dX0_isFired_5 (m_arO (a := 0) (len := 8) hc_o rfl) (by decide) hb ?_
  refine m_iconst C dX0_isFired_6 (by unfold in32; omega) ?_
  refine m_icmp_eq (tgt := 14) C dX0_isFired_7 (by decide) (fun c => ?_) (fun c => ?_)
  · have h := h.1 c
    refine m_iconst C dX0_isFired_14 (by unfold in32; omega) ?_
    exact f_zret C R rfl dX0_isFired_15 (by decide) h
  · have h := h.2 c
    refine m_iconst C dX0_isFired_10 (by unfold in32; omega) ?_
    refine m_goto (tgt := 15) C dX0_isFired_11 (by decide) ?_
    exact f_zret C R rfl dX0_isFired_15 (by decide) h

set_option maxRecDepth 20000 in
theorem VX0_whoIsIn_0 {G : m_G} {X : m_X} {d : Nat} {K : Int → m_M → Prop} (C : mC G X YX0_whoIsIn (d + 1)) (R : r_i G X K) {μ : m_M} {o : Nat} {a1 : Int} {a2 : Int} (hc_o : m_cls o = 0)
    (h : mW G X YX0_whoIsIn μ 2 [some (vR o 0), some (vI a1), some (vI a2), some (vI 0)] []) :
    mW G X YX0_whoIsIn μ 0 [some (vR o 0), some (vI a1), some (vI a2), none] [] := by
  refine m_iconst C dX0_whoIsIn_0 (by unfold in32; omega) ?_
  refine o_istore_n [some (vR o 0), some (vI a1), some (vI a2), some (vI 0)] C dX0_whoIsIn_1 (by decide) rfl ?_
  exact h

set_option maxRecDepth 20000 in
theorem VX0_whoIsIn_2 {G : m_G} {X : m_X} {d : Nat} {K : Int → m_M → Prop} (C : mC G X YX0_whoIsIn (d + 1)) (R : r_i G X K) {μ : m_M} {o : Nat} {a1 : Int} {a2 : Int} {l3 : Int} (hc_o : m_cls o = 0)
    (h : ((8 ≤ l3) → K (-1) μ) ∧ ((¬ 8 ≤ l3) → (0 ≤ l3 ∧ l3 < 8) ∧ ((¬ (μ o 3 l3.toNat) = a1) → ∀ x1 : Int, x1 = w32 (l3 + 1) → mW G X YX0_whoIsIn μ 2 [some (vR o 0), some (vI a1), some (vI a2), some (vI x1)] []) ∧ ((μ o 3 l3.toNat = a1) → (0 ≤ l3 ∧ l3 < 8) ∧ ((¬ (μ o 4 l3.toNat) = a2) → ∀ x2 : Int, x2 = w32 (l3 + 1) → mW G X YX0_whoIsIn μ 2 [some (vR o 0), some (vI a1), some (vI a2), some (vI x2)] []) ∧ ((μ o 4 l3.toNat = a2) → K l3 μ)))) :
    mW G X YX0_whoIsIn μ 2 [some (vR o 0), some (vI a1), some (vI a2), some (vI l3)] [] := by
  refine m_iload_n C dX0_whoIsIn_2 rfl ?_
  refine m_bipush C dX0_whoIsIn_3 (by omega) ?_
  refine m_icmp_ge (tgt := 36) C dX0_whoIsIn_5 (by decide) (fun c => ?_) (fun c => ?_)
  · have h := h.1 c
    refine m_iconst C dX0_whoIsIn_36 (by unfold in32; omega) ?_
    exact f_iret C R rfl dX0_whoIsIn_37 h
  · have h := h.2 c
    refine m_aload_n C dX0_whoIsIn_8 rfl ?_
    refine f_getA C dX0_whoIsIn_9 fl_KilnBench_Bench_18 hc_o (by decide) (by decide) (by decide) (by decide) ?_
    refine m_iload_n C dX0_whoIsIn_12 rfl ?_
    obtain ⟨hb, h⟩ := h
    refine f_iald C dX0_whoIsIn_13 (m_arO (a := 0) (len := 8) hc_o rfl) (by decide) hb ?_
    refine m_iload_n C dX0_whoIsIn_14 rfl ?_
    refine m_icmp_ne (tgt := 30) C dX0_whoIsIn_15 (by decide) (fun c => ?_) (fun c => ?_)
    · have h := h.1 c
      refine n_iinc (fun x1 => [some (vR o 0), some (vI a1), some (vI a2), some (vI x1)]) C dX0_whoIsIn_30 rfl (by decide) (fun _ => rfl) (fun x1 ex1 => ?_)
      have h := h x1 ex1
      refine m_goto (tgt := 2) C dX0_whoIsIn_33 (by decide) ?_
      exact h
    · have h := h.2 c
      refine m_aload_n C dX0_whoIsIn_18 rfl ?_
      refine f_getA C dX0_whoIsIn_19 fl_KilnBench_Bench_22 hc_o (by decide) (by decide) (by decide) (by decide) ?_
      refine m_iload_n C dX0_whoIsIn_22 rfl ?_
      obtain ⟨hb, h⟩ := h
      refine f_iald C dX0_whoIsIn_23 (m_arO (a := 0) (len := 8) hc_o rfl) (by decide) hb ?_
      refine m_iload_n C dX0_whoIsIn_24 rfl ?_
      refine m_icmp_ne (tgt := 30) C dX0_whoIsIn_25 (by decide) (fun c => ?_) (fun c => ?_)
      · have h := h.1 c
        refine n_iinc (fun x2 => [some (vR o 0), some (vI a1), some (vI a2), some (vI x2)]) C dX0_whoIsIn_30 rfl (by decide) (fun _ => rfl) (fun x2 ex2 => ?_)
        have h := h x2 ex2
        refine m_goto (tgt := 2) C dX0_whoIsIn_33 (by decide) ?_
        exact h
      · have h := h.2 c
        refine m_iload_n C dX0_whoIsIn_28 rfl ?_
        exact f_iret C R rfl dX0_whoIsIn_29 h

set_option maxRecDepth 20000 in
theorem VX0_countIn_0 {G : m_G} {X : m_X} {d : Nat} {K : Int → m_M → Prop} (C : mC G X YX0_countIn (d + 1)) (R : r_i G X K) {μ : m_M} {o : Nat} {a1 : Int} (hc_o : m_cls o = 0)
    (h : mW G X YX0_countIn μ 4 [some (vR o 0), some (vI a1), some (vI 0), some (vI 0)] []) :
    mW G X YX0_countIn μ 0 [some (vR o 0), some (vI a1), none, none] [] := by
  refine m_iconst C dX0_countIn_0 (by unfold in32; omega) ?_
  refine o_istore_n [some (vR o 0), some (vI a1), some (vI 0), none] C dX0_countIn_1 (by decide) rfl ?_
  refine m_iconst C dX0_countIn_2 (by unfold in32; omega) ?_
  refine o_istore_n [some (vR o 0), some (vI a1), some (vI 0), some (vI 0)] C dX0_countIn_3 (by decide) rfl ?_
  exact h

set_option maxRecDepth 20000 in
theorem VX0_countIn_4 {G : m_G} {X : m_X} {d : Nat} {K : Int → m_M → Prop} (C : mC G X YX0_countIn (d + 1)) (R : r_i G X K) {μ : m_M} {o : Nat} {a1 : Int} {l2 : Int} {l3 : Int} (hc_o : m_cls o = 0)
    (h : ((8 ≤ l3) → K l2 μ) ∧ ((¬ 8 ≤ l3) → (0 ≤ l3 ∧ l3 < 8) ∧ ((¬ (μ o 3 l3.toNat) = a1) → ∀ x1 : Int, x1 = w32 (l2 + 0) → ∀ x2 : Int, x2 = w32 (l3 + 1) → mW G X YX0_countIn μ 4 [some (vR o 0), some (vI a1), some (vI x1), some (vI x2)] []) ∧ ((μ o 3 l3.toNat = a1) → ∀ x3 : Int, x3 = w32 (l2 + 1) → ∀ x4 : Int, x4 = w32 (l3 + 1) → mW G X YX0_countIn μ 4 [some (vR o 0), some (vI a1), some (vI x3), some (vI x4)] []))) :
    mW G X YX0_countIn μ 4 [some (vR o 0), some (vI a1), some (vI l2), some (vI l3)] [] := by
  refine m_iload_n C dX0_countIn_4 rfl ?_
  refine m_bipush C dX0_countIn_5 (by omega) ?_
  refine m_icmp_ge (tgt := 34) C dX0_countIn_7 (by decide) (fun c => ?_) (fun c => ?_)
  · have h := h.1 c
    refine m_iload_n C dX0_countIn_34 rfl ?_
    exact f_iret C R rfl dX0_countIn_35 h
  · have h := h.2 c
    refine m_iload_n C dX0_countIn_10 rfl ?_
    refine m_aload_n C dX0_countIn_11 rfl ?_
    refine f_getA C dX0_countIn_12 fl_KilnBench_Bench_18 hc_o (by decide) (by decide) (by decide) (by decide) ?_
    refine m_iload_n C dX0_countIn_15 rfl ?_
    obtain ⟨hb, h⟩ := h
    refine f_iald C dX0_countIn_16 (m_arO (a := 0) (len := 8) hc_o rfl) (by decide) hb ?_
    refine m_iload_n C dX0_countIn_17 rfl ?_
    refine m_icmp_ne (tgt := 25) C dX0_countIn_18 (by decide) (fun c => ?_) (fun c => ?_)
    · have h := h.1 c
      refine m_iconst C dX0_countIn_25 (by unfold in32; omega) ?_
      refine m_iadd C dX0_countIn_26 ?_
      refine n_istore_n (fun x1 => [some (vR o 0), some (vI a1), some (vI x1), some (vI l3)]) C dX0_countIn_27 (by decide) (fun _ => rfl) (fun x1 ex1 => ?_)
      have h := h x1 ex1
      refine n_iinc (fun x2 => [some (vR o 0), some (vI a1), some (vI x1), some (vI x2)]) C dX0_countIn_28 rfl (by decide) (fun _ => rfl) (fun x2 ex2 => ?_)
      have h := h x2 ex2
      refine m_goto (tgt := 4) C dX0_countIn_31 (by decide) ?_
      exact h
    · have h := h.2 c
      refine m_iconst C dX0_countIn_21 (by unfold in32; omega) ?_
      refine m_goto (tgt := 26) C dX0_countIn_22 (by decide) ?_
      refine m_iadd C dX0_countIn_26 ?_
      refine n_istore_n (fun x3 => [some (vR o 0), some (vI a1), some (vI x3), some (vI l3)]) C dX0_countIn_27 (by decide) (fun _ => rfl) (fun x3 ex3 => ?_)
      have h := h x3 ex3
      refine n_iinc (fun x4 => [some (vR o 0), some (vI a1), some (vI x3), some (vI x4)]) C dX0_countIn_28 rfl (by decide) (fun _ => rfl) (fun x4 ex4 => ?_)
      have h := h x4 ex4
      refine m_goto (tgt := 4) C dX0_countIn_31 (by decide) ?_
      exact h

set_option maxRecDepth 20000 in
theorem VX0_countSet_0 {G : m_G} {X : m_X} {d : Nat} {K : Int → m_M → Prop} (C : mC G X YX0_countSet (d + 1)) (R : r_i G X K) {μ : m_M} {o : Nat} (hc_o : m_cls o = 0)
    (h : c_i G d YX0_countIn [vR o 0, vI (-1)] μ (fun r2 μ1 => K (w32 (8 - r2)) μ1)) :
    mW G X YX0_countSet μ 0 [some (vR o 0)] [] := by
  refine m_bipush C dX0_countSet_0 (by omega) ?_
  refine m_aload_n C dX0_countSet_2 rfl ?_
  refine m_iconst C dX0_countSet_3 (by unfold in32; omega) ?_
  refine f_callVi (As := [vI (-1)]) (st := [vI 8]) C dX0_countSet_4 ml_KilnBench_Bench_60 hc_o (by decide) rfl rfl rfl (Nat.le_of_ble_eq_true rfl) h (fun r2 μ1 h => ?_)
  refine m_isub C dX0_countSet_7 ?_
  exact f_iret C R rfl dX0_countSet_8 h

set_option maxRecDepth 20000 in
theorem VX0_countFired_0 {G : m_G} {X : m_X} {d : Nat} {K : Int → m_M → Prop} (C : mC G X YX0_countFired (d + 1)) (R : r_i G X K) {μ : m_M} {o : Nat} (hc_o : m_cls o = 0)
    (h : mW G X YX0_countFired μ 4 [some (vR o 0), some (vI 0), some (vI 0)] []) :
    mW G X YX0_countFired μ 0 [some (vR o 0), none, none] [] := by
  refine m_iconst C dX0_countFired_0 (by unfold in32; omega) ?_
  refine o_istore_n [some (vR o 0), some (vI 0), none] C dX0_countFired_1 (by decide) rfl ?_
  refine m_iconst C dX0_countFired_2 (by unfold in32; omega) ?_
  refine o_istore_n [some (vR o 0), some (vI 0), some (vI 0)] C dX0_countFired_3 (by decide) rfl ?_
  exact h

set_option maxRecDepth 20000 in
theorem VX0_countFired_4 {G : m_G} {X : m_X} {d : Nat} {K : Int → m_M → Prop} (C : mC G X YX0_countFired (d + 1)) (R : r_i G X K) {μ : m_M} {o : Nat} {l1 : Int} {l2 : Int} (hc_o : m_cls o = 0)
    (h : ((8 ≤ l2) → K l1 μ) ∧ ((¬ 8 ≤ l2) → c_i G d YX0_isFired [vR o 0, vI l2] μ (fun r2 μ1 => ((r2 = 0) → ∀ x3 : Int, x3 = w32 (l1 + 0) → ∀ x4 : Int, x4 = w32 (l2 + 1) → mW G X YX0_countFired μ1 4 [some (vR o 0), some (vI x3), some (vI x4)] []) ∧ ((¬ r2 = 0) → ∀ x5 : Int, x5 = w32 (l1 + 1) → ∀ x6 : Int, x6 = w32 (l2 + 1) → mW G X YX0_countFired μ1 4 [some (vR o 0), some (vI x5), some (vI x6)] [])))) :
    mW G X YX0_countFired μ 4 [some (vR o 0), some (vI l1), some (vI l2)] [] := by
  refine m_iload_n C dX0_countFired_4 rfl ?_
  refine m_bipush C dX0_countFired_5 (by omega) ?_
  refine m_icmp_ge (tgt := 32) C dX0_countFired_7 (by decide) (fun c => ?_) (fun c => ?_)
  · have h := h.1 c
    refine m_iload_n C dX0_countFired_32 rfl ?_
    exact f_iret C R rfl dX0_countFired_33 h
  · have h := h.2 c
    refine m_iload_n C dX0_countFired_10 rfl ?_
    refine m_aload_n C dX0_countFired_11 rfl ?_
    refine m_iload_n C dX0_countFired_12 rfl ?_
    refine f_callVi (As := [vI l2]) (st := [vI l1]) C dX0_countFired_13 ml_KilnBench_Bench_64 hc_o (by decide) rfl rfl rfl (Nat.le_of_ble_eq_true rfl) h (fun r2 μ1 h => ?_)
    refine m_if_eq (tgt := 23) C dX0_countFired_16 (by decide) (fun c => ?_) (fun c => ?_)
    · have h := h.1 c
      refine m_iconst C dX0_countFired_23 (by unfold in32; omega) ?_
      refine m_iadd C dX0_countFired_24 ?_
      refine n_istore_n (fun x3 => [some (vR o 0), some (vI x3), some (vI l2)]) C dX0_countFired_25 (by decide) (fun _ => rfl) (fun x3 ex3 => ?_)
      have h := h x3 ex3
      refine n_iinc (fun x4 => [some (vR o 0), some (vI x3), some (vI x4)]) C dX0_countFired_26 rfl (by decide) (fun _ => rfl) (fun x4 ex4 => ?_)
      have h := h x4 ex4
      refine m_goto (tgt := 4) C dX0_countFired_29 (by decide) ?_
      exact h
    · have h := h.2 c
      refine m_iconst C dX0_countFired_19 (by unfold in32; omega) ?_
      refine m_goto (tgt := 24) C dX0_countFired_20 (by decide) ?_
      refine m_iadd C dX0_countFired_24 ?_
      refine n_istore_n (fun x5 => [some (vR o 0), some (vI x5), some (vI l2)]) C dX0_countFired_25 (by decide) (fun _ => rfl) (fun x5 ex5 => ?_)
      have h := h x5 ex5
      refine n_iinc (fun x6 => [some (vR o 0), some (vI x5), some (vI x6)]) C dX0_countFired_26 rfl (by decide) (fun _ => rfl) (fun x6 ex6 => ?_)
      have h := h x6 ex6
      refine m_goto (tgt := 4) C dX0_countFired_29 (by decide) ?_
      exact h

set_option maxRecDepth 20000 in
theorem VX0_countCracked_0 {G : m_G} {X : m_X} {d : Nat} {K : Int → m_M → Prop} (C : mC G X YX0_countCracked (d + 1)) (R : r_i G X K) {μ : m_M} {o : Nat} (hc_o : m_cls o = 0)
    (h : mW G X YX0_countCracked μ 4 [some (vR o 0), some (vI 0), some (vI 0)] []) :
    mW G X YX0_countCracked μ 0 [some (vR o 0), none, none] [] := by
  refine m_iconst C dX0_countCracked_0 (by unfold in32; omega) ?_
  refine o_istore_n [some (vR o 0), some (vI 0), none] C dX0_countCracked_1 (by decide) rfl ?_
  refine m_iconst C dX0_countCracked_2 (by unfold in32; omega) ?_
  refine o_istore_n [some (vR o 0), some (vI 0), some (vI 0)] C dX0_countCracked_3 (by decide) rfl ?_
  exact h

set_option maxRecDepth 20000 in
theorem VX0_countCracked_4 {G : m_G} {X : m_X} {d : Nat} {K : Int → m_M → Prop} (C : mC G X YX0_countCracked (d + 1)) (R : r_i G X K) {μ : m_M} {o : Nat} {l1 : Int} {l2 : Int} (hc_o : m_cls o = 0)
    (h : ((8 ≤ l2) → K l1 μ) ∧ ((¬ 8 ≤ l2) → (0 ≤ l2 ∧ l2 < 8) ∧ ∀ x1 : Int, x1 = w32 (l1 + (μ o 6 l2.toNat)) → ∀ x2 : Int, x2 = w32 (l2 + 1) → mW G X YX0_countCracked μ 4 [some (vR o 0), some (vI x1), some (vI x2)] [])) :
    mW G X YX0_countCracked μ 4 [some (vR o 0), some (vI l1), some (vI l2)] [] := by
  refine m_iload_n C dX0_countCracked_4 rfl ?_
  refine m_bipush C dX0_countCracked_5 (by omega) ?_
  refine m_icmp_ge (tgt := 25) C dX0_countCracked_7 (by decide) (fun c => ?_) (fun c => ?_)
  · have h := h.1 c
    refine m_iload_n C dX0_countCracked_25 rfl ?_
    exact f_iret C R rfl dX0_countCracked_26 h
  · have h := h.2 c
    refine m_iload_n C dX0_countCracked_10 rfl ?_
    refine m_aload_n C dX0_countCracked_11 rfl ?_
    refine f_getA C dX0_countCracked_12 fl_KilnBench_Bench_28 hc_o (by decide) (by decide) (by decide) (by decide) ?_
    refine m_iload_n C dX0_countCracked_15 rfl ?_
    obtain ⟨hb, h⟩ := h
    refine f_iald C dX0_countCracked_16 (m_arO (a := 0) (len := 8) hc_o rfl) (by decide) hb ?_
    refine m_iadd C dX0_countCracked_17 ?_
    refine n_istore_n (fun x1 => [some (vR o 0), some (vI x1), some (vI l2)]) C dX0_countCracked_18 (by decide) (fun _ => rfl) (fun x1 ex1 => ?_)
    have h := h x1 ex1
    refine n_iinc (fun x2 => [some (vR o 0), some (vI x1), some (vI x2)]) C dX0_countCracked_19 rfl (by decide) (fun _ => rfl) (fun x2 ex2 => ?_)
    have h := h x2 ex2
    refine m_goto (tgt := 4) C dX0_countCracked_22 (by decide) ?_
    exact h

set_option maxRecDepth 20000 in
theorem VX0_countLit_0 {G : m_G} {X : m_X} {d : Nat} {K : Int → m_M → Prop} (C : mC G X YX0_countLit (d + 1)) (R : r_i G X K) {μ : m_M} {o : Nat} (hc_o : m_cls o = 0)
    (h : mW G X YX0_countLit μ 4 [some (vR o 0), some (vI 0), some (vI 0)] []) :
    mW G X YX0_countLit μ 0 [some (vR o 0), none, none] [] := by
  refine m_iconst C dX0_countLit_0 (by unfold in32; omega) ?_
  refine o_istore_n [some (vR o 0), some (vI 0), none] C dX0_countLit_1 (by decide) rfl ?_
  refine m_iconst C dX0_countLit_2 (by unfold in32; omega) ?_
  refine o_istore_n [some (vR o 0), some (vI 0), some (vI 0)] C dX0_countLit_3 (by decide) rfl ?_
  exact h

set_option maxRecDepth 20000 in
theorem VX0_countLit_4 {G : m_G} {X : m_X} {d : Nat} {K : Int → m_M → Prop} (C : mC G X YX0_countLit (d + 1)) (R : r_i G X K) {μ : m_M} {o : Nat} {l1 : Int} {l2 : Int} (hc_o : m_cls o = 0)
    (h : ((3 ≤ l2) → K l1 μ) ∧ ((¬ 3 ≤ l2) → (0 ≤ l2 ∧ l2 < 3) ∧ ((¬ (μ o 8 l2.toNat) = (-1)) → ∀ x1 : Int, x1 = w32 (l1 + 1) → ∀ x2 : Int, x2 = w32 (l2 + 1) → mW G X YX0_countLit μ 4 [some (vR o 0), some (vI x1), some (vI x2)] []) ∧ ((μ o 8 l2.toNat = (-1)) → ∀ x3 : Int, x3 = w32 (l1 + 0) → ∀ x4 : Int, x4 = w32 (l2 + 1) → mW G X YX0_countLit μ 4 [some (vR o 0), some (vI x3), some (vI x4)] []))) :
    mW G X YX0_countLit μ 4 [some (vR o 0), some (vI l1), some (vI l2)] [] := by
  refine m_iload_n C dX0_countLit_4 rfl ?_
  refine m_iconst C dX0_countLit_5 (by unfold in32; omega) ?_
  refine m_icmp_ge (tgt := 33) C dX0_countLit_6 (by decide) (fun c => ?_) (fun c => ?_)
  · have h := h.1 c
    refine m_iload_n C dX0_countLit_33 rfl ?_
    exact f_iret C R rfl dX0_countLit_34 h
  · have h := h.2 c
    refine m_iload_n C dX0_countLit_9 rfl ?_
    refine m_aload_n C dX0_countLit_10 rfl ?_
    refine f_getA C dX0_countLit_11 fl_KilnBench_Bench_34 hc_o (by decide) (by decide) (by decide) (by decide) ?_
    refine m_iload_n C dX0_countLit_14 rfl ?_
    obtain ⟨hb, h⟩ := h
    refine f_iald C dX0_countLit_15 (m_arO (a := 0) (len := 3) hc_o rfl) (by decide) hb ?_
    refine m_iconst C dX0_countLit_16 (by unfold in32; omega) ?_
    refine m_icmp_ne (tgt := 24) C dX0_countLit_17 (by decide) (fun c => ?_) (fun c => ?_)
    · have h := h.1 c
      refine m_iconst C dX0_countLit_24 (by unfold in32; omega) ?_
      refine m_iadd C dX0_countLit_25 ?_
      refine n_istore_n (fun x1 => [some (vR o 0), some (vI x1), some (vI l2)]) C dX0_countLit_26 (by decide) (fun _ => rfl) (fun x1 ex1 => ?_)
      have h := h x1 ex1
      refine n_iinc (fun x2 => [some (vR o 0), some (vI x1), some (vI x2)]) C dX0_countLit_27 rfl (by decide) (fun _ => rfl) (fun x2 ex2 => ?_)
      have h := h x2 ex2
      refine m_goto (tgt := 4) C dX0_countLit_30 (by decide) ?_
      exact h
    · have h := h.2 c
      refine m_iconst C dX0_countLit_20 (by unfold in32; omega) ?_
      refine m_goto (tgt := 25) C dX0_countLit_21 (by decide) ?_
      refine m_iadd C dX0_countLit_25 ?_
      refine n_istore_n (fun x3 => [some (vR o 0), some (vI x3), some (vI l2)]) C dX0_countLit_26 (by decide) (fun _ => rfl) (fun x3 ex3 => ?_)
      have h := h x3 ex3
      refine n_iinc (fun x4 => [some (vR o 0), some (vI x3), some (vI x4)]) C dX0_countLit_27 rfl (by decide) (fun _ => rfl) (fun x4 ex4 => ?_)
      have h := h x4 ex4
      refine m_goto (tgt := 4) C dX0_countLit_30 (by decide) ?_
      exact h

set_option maxRecDepth 20000 in
theorem VX0_takeOut_0 {G : m_G} {X : m_X} {d : Nat} {K : m_M → Prop} (C : mC G X YX0_takeOut (d + 1)) (R : r_v G X K) {μ : m_M} {o : Nat} {a1 : Int} (hc_o : m_cls o = 0)
    (h : (0 ≤ a1 ∧ a1 < 8) ∧ ∀ μ1 : m_M, μ1 = m_up μ o 3 a1.toNat (-1) → (0 ≤ a1 ∧ a1 < 8) ∧ ∀ μ2 : m_M, μ2 = m_up μ1 o 4 a1.toNat (-1) → K μ2) :
    mW G X YX0_takeOut μ 0 [some (vR o 0), some (vI a1)] [] := by
  refine m_aload_n C dX0_takeOut_0 rfl ?_
  refine f_getA C dX0_takeOut_1 fl_KilnBench_Bench_18 hc_o (by decide) (by decide) (by decide) (by decide) ?_
  refine m_iload_n C dX0_takeOut_4 rfl ?_
  refine m_iconst C dX0_takeOut_5 (by unfold in32; omega) ?_
  obtain ⟨hb, h⟩ := h
  refine f_iast C dX0_takeOut_6 (m_arO (a := 0) (len := 8) hc_o rfl) (by decide) hb ?_
  refine n_mem (fun μ1 eμ1 => ?_)
  have h := h μ1 eμ1
  refine m_aload_n C dX0_takeOut_7 rfl ?_
  refine f_getA C dX0_takeOut_8 fl_KilnBench_Bench_22 hc_o (by decide) (by decide) (by decide) (by decide) ?_
  refine m_iload_n C dX0_takeOut_11 rfl ?_
  refine m_iconst C dX0_takeOut_12 (by unfold in32; omega) ?_
  obtain ⟨hb, h⟩ := h
  refine f_iast C dX0_takeOut_13 (m_arO (a := 0) (len := 8) hc_o rfl) (by decide) hb ?_
  refine n_mem (fun μ2 eμ2 => ?_)
  have h := h μ2 eμ2
  exact f_vret C R rfl dX0_takeOut_14 h

set_option maxRecDepth 20000 in
theorem VX0_comeOut_0 {G : m_G} {X : m_X} {d : Nat} {K : m_M → Prop} (C : mC G X YX0_comeOut (d + 1)) (R : r_v G X K) {μ : m_M} {o : Nat} {a1 : Int} {a2 : Int} {a3 : Int} (hc_o : m_cls o = 0)
    (h : c_v G d YX0_takeOut [vR o 0, vI a1] μ (fun μ1 => (0 ≤ a1 ∧ a1 < 8) ∧ ∀ μ2 : m_M, μ2 = m_up μ1 o 5 a1.toNat a2 → (0 ≤ a1 ∧ a1 < 8) ∧ ∀ μ3 : m_M, μ3 = m_up μ2 o 6 a1.toNat a3 → K μ3)) :
    mW G X YX0_comeOut μ 0 [some (vR o 0), some (vI a1), some (vI a2), some (vI a3)] [] := by
  refine m_aload_n C dX0_comeOut_0 rfl ?_
  refine m_iload_n C dX0_comeOut_1 rfl ?_
  refine f_callVv (As := [vI a1]) (st := []) C dX0_comeOut_2 ml_KilnBench_Bench_68 hc_o (by decide) rfl rfl rfl (Nat.le_of_ble_eq_true rfl) h (fun μ1 h => ?_)
  refine m_aload_n C dX0_comeOut_5 rfl ?_
  refine f_getA C dX0_comeOut_6 fl_KilnBench_Bench_25 hc_o (by decide) (by decide) (by decide) (by decide) ?_
  refine m_iload_n C dX0_comeOut_9 rfl ?_
  refine m_iload_n C dX0_comeOut_10 rfl ?_
  obtain ⟨hb, h⟩ := h
  refine f_iast C dX0_comeOut_11 (m_arO (a := 0) (len := 8) hc_o rfl) (by decide) hb ?_
  refine n_mem (fun μ2 eμ2 => ?_)
  have h := h μ2 eμ2
  refine m_aload_n C dX0_comeOut_12 rfl ?_
  refine f_getA C dX0_comeOut_13 fl_KilnBench_Bench_28 hc_o (by decide) (by decide) (by decide) (by decide) ?_
  refine m_iload_n C dX0_comeOut_16 rfl ?_
  refine m_iload_n C dX0_comeOut_17 rfl ?_
  obtain ⟨hb, h⟩ := h
  refine f_iast C dX0_comeOut_18 (m_arO (a := 0) (len := 8) hc_o rfl) (by decide) hb ?_
  refine n_mem (fun μ3 eμ3 => ?_)
  have h := h μ3 eμ3
  exact f_vret C R rfl dX0_comeOut_19 h

set_option maxRecDepth 20000 in
theorem VX0_stick_0 {G : m_G} {X : m_X} {d : Nat} {K : m_M → Prop} (C : mC G X YX0_stick (d + 1)) (R : r_v G X K) {μ : m_M} {o : Nat} {a1 : Int} {a2 : Int} (hc_o : m_cls o = 0)
    (h : (0 ≤ a1 ∧ a1 < 8) ∧ (0 ≤ a1 ∧ a1 < 8) ∧ ∀ μ1 : m_M, μ1 = m_up μ o 7 a1.toNat (i_or (μ o 7 a1.toNat) (i_shl 1 a2)) → (0 ≤ a2 ∧ a2 < 8) ∧ (0 ≤ a2 ∧ a2 < 8) ∧ ∀ μ2 : m_M, μ2 = m_up μ1 o 7 a2.toNat (i_or (μ1 o 7 a2.toNat) (i_shl 1 a1)) → K μ2) :
    mW G X YX0_stick μ 0 [some (vR o 0), some (vI a1), some (vI a2)] [] := by
  refine m_aload_n C dX0_stick_0 rfl ?_
  refine f_getA C dX0_stick_1 fl_KilnBench_Bench_31 hc_o (by decide) (by decide) (by decide) (by decide) ?_
  refine m_iload_n C dX0_stick_4 rfl ?_
  refine m_dup2 C dX0_stick_5 rfl rfl ?_
  obtain ⟨hb, h⟩ := h
  refine f_iald C dX0_stick_6 (m_arO (a := 0) (len := 8) hc_o rfl) (by decide) hb ?_
  refine m_iconst C dX0_stick_7 (by unfold in32; omega) ?_
  refine m_iload_n C dX0_stick_8 rfl ?_
  refine m_ishl C dX0_stick_9 ?_
  refine m_ior C dX0_stick_10 ?_
  obtain ⟨hb, h⟩ := h
  refine f_iast C dX0_stick_11 (m_arO (a := 0) (len := 8) hc_o rfl) (by decide) hb ?_
  refine n_mem (fun μ1 eμ1 => ?_)
  have h := h μ1 eμ1
  refine m_aload_n C dX0_stick_12 rfl ?_
  refine f_getA C dX0_stick_13 fl_KilnBench_Bench_31 hc_o (by decide) (by decide) (by decide) (by decide) ?_
  refine m_iload_n C dX0_stick_16 rfl ?_
  refine m_dup2 C dX0_stick_17 rfl rfl ?_
  obtain ⟨hb, h⟩ := h
  refine f_iald C dX0_stick_18 (m_arO (a := 0) (len := 8) hc_o rfl) (by decide) hb ?_
  refine m_iconst C dX0_stick_19 (by unfold in32; omega) ?_
  refine m_iload_n C dX0_stick_20 rfl ?_
  refine m_ishl C dX0_stick_21 ?_
  refine m_ior C dX0_stick_22 ?_
  obtain ⟨hb, h⟩ := h
  refine f_iast C dX0_stick_23 (m_arO (a := 0) (len := 8) hc_o rfl) (by decide) hb ?_
  refine n_mem (fun μ2 eμ2 => ?_)
  have h := h μ2 eμ2
  exact f_vret C R rfl dX0_stick_24 h

set_option maxRecDepth 20000 in
theorem VX0_brothersOf_0 {G : m_G} {X : m_X} {d : Nat} {K : Int → m_M → Prop} (C : mC G X YX0_brothersOf (d + 1)) (R : r_i G X K) {μ : m_M} {o : Nat} {a1 : Int} (hc_o : m_cls o = 0)
    (h : c_i G d YX0_isFired [vR o 0, vI a1] μ (fun r2 μ1 => ((¬ r2 = 0) → ∀ x3 : Int, x3 = i_shl 1 a1 → mW G X YX0_brothersOf μ1 16 [some (vR o 0), some (vI a1), some (vI x3), some (vI 0), none] []) ∧ ((r2 = 0) → K 0 μ1))) :
    mW G X YX0_brothersOf μ 0 [some (vR o 0), some (vI a1), none, none, none] [] := by
  refine m_aload_n C dX0_brothersOf_0 rfl ?_
  refine m_iload_n C dX0_brothersOf_1 rfl ?_
  refine f_callVi (As := [vI a1]) (st := []) C dX0_brothersOf_2 ml_KilnBench_Bench_64 hc_o (by decide) rfl rfl rfl (Nat.le_of_ble_eq_true rfl) h (fun r2 μ1 h => ?_)
  refine m_if_ne (tgt := 10) C dX0_brothersOf_5 (by decide) (fun c => ?_) (fun c => ?_)
  · have h := h.1 c
    refine m_iconst C dX0_brothersOf_10 (by unfold in32; omega) ?_
    refine m_iload_n C dX0_brothersOf_11 rfl ?_
    refine m_ishl C dX0_brothersOf_12 ?_
    refine n_istore_n (fun x3 => [some (vR o 0), some (vI a1), some (vI x3), none, none]) C dX0_brothersOf_13 (by decide) (fun _ => rfl) (fun x3 ex3 => ?_)
    have h := h x3 ex3
    refine m_iconst C dX0_brothersOf_14 (by unfold in32; omega) ?_
    refine o_istore_n [some (vR o 0), some (vI a1), some (vI x3), some (vI 0), none] C dX0_brothersOf_15 (by decide) rfl ?_
    exact h
  · have h := h.2 c
    refine m_iconst C dX0_brothersOf_8 (by unfold in32; omega) ?_
    exact f_iret C R rfl dX0_brothersOf_9 h

set_option maxRecDepth 20000 in
theorem VX0_brothersOf_16 {G : m_G} {X : m_X} {d : Nat} {K : Int → m_M → Prop} (C : mC G X YX0_brothersOf (d + 1)) (R : r_i G X K) {μ : m_M} {o : Nat} {a1 : Int} {l2 : Int} {l3 : Int} (hc_o : m_cls o = 0)
    (h : ((8 ≤ l3) → K l2 μ) ∧ ((¬ 8 ≤ l3) → mW G X YX0_brothersOf μ 25 [some (vR o 0), some (vI a1), some (vI l2), some (vI l3), some (vI 0)] [])) :
    mW G X YX0_brothersOf μ 16 [some (vR o 0), some (vI a1), some (vI l2), some (vI l3), none] [] := by
  refine m_iload_n C dX0_brothersOf_16 rfl ?_
  refine m_bipush C dX0_brothersOf_17 (by omega) ?_
  refine m_icmp_ge (tgt := 64) C dX0_brothersOf_19 (by decide) (fun c => ?_) (fun c => ?_)
  · have h := h.1 c
    refine m_iload_n C dX0_brothersOf_64 rfl ?_
    exact f_iret C R rfl dX0_brothersOf_65 h
  · have h := h.2 c
    refine m_iconst C dX0_brothersOf_22 (by unfold in32; omega) ?_
    refine o_istore [some (vR o 0), some (vI a1), some (vI l2), some (vI l3), some (vI 0)] C dX0_brothersOf_23 (by decide) rfl ?_
    exact h

set_option maxRecDepth 20000 in
theorem VX0_brothersOf_25 {G : m_G} {X : m_X} {d : Nat} {K : Int → m_M → Prop} (C : mC G X YX0_brothersOf (d + 1)) (R : r_i G X K) {μ : m_M} {o : Nat} {a1 : Int} {l2 : Int} {l3 : Int} {l4 : Int} (hc_o : m_cls o = 0)
    (h : ((8 ≤ l4) → ∀ x1 : Int, x1 = w32 (l3 + 1) → mW G X YX0_brothersOf μ 16 [some (vR o 0), some (vI a1), some (vI l2), some (vI x1), none] []) ∧ ((¬ 8 ≤ l4) → ((¬ (i_and (i_shr l2 l4) 1) = 1) → ∀ x2 : Int, x2 = w32 (l4 + 1) → mW G X YX0_brothersOf μ 25 [some (vR o 0), some (vI a1), some (vI l2), some (vI l3), some (vI x2)] []) ∧ ((i_and (i_shr l2 l4) 1 = 1) → (0 ≤ l4 ∧ l4 < 8) ∧ ∀ x3 : Int, x3 = i_or l2 (μ o 7 l4.toNat) → ∀ x4 : Int, x4 = w32 (l4 + 1) → mW G X YX0_brothersOf μ 25 [some (vR o 0), some (vI a1), some (vI x3), some (vI l3), some (vI x4)] []))) :
    mW G X YX0_brothersOf μ 25 [some (vR o 0), some (vI a1), some (vI l2), some (vI l3), some (vI l4)] [] := by
  refine m_iload C dX0_brothersOf_25 rfl ?_
  refine m_bipush C dX0_brothersOf_27 (by omega) ?_
  refine m_icmp_ge (tgt := 58) C dX0_brothersOf_29 (by decide) (fun c => ?_) (fun c => ?_)
  · have h := h.1 c
    refine n_iinc (fun x1 => [some (vR o 0), some (vI a1), some (vI l2), some (vI x1), some (vI l4)]) C dX0_brothersOf_58 rfl (by decide) (fun _ => rfl) (fun x1 ex1 => ?_)
    have h := h x1 ex1
    refine m_goto (tgt := 16) C dX0_brothersOf_61 (by decide) ?_
    exact n_weak (le_same (le_same (le_same (le_same (le_none le_nil))))) h
  · have h := h.2 c
    refine m_iload_n C dX0_brothersOf_32 rfl ?_
    refine m_iload C dX0_brothersOf_33 rfl ?_
    refine m_ishr C dX0_brothersOf_35 ?_
    refine m_iconst C dX0_brothersOf_36 (by unfold in32; omega) ?_
    refine m_iand C dX0_brothersOf_37 ?_
    refine m_iconst C dX0_brothersOf_38 (by unfold in32; omega) ?_
    refine m_icmp_ne (tgt := 52) C dX0_brothersOf_39 (by decide) (fun c => ?_) (fun c => ?_)
    · have h := h.1 c
      refine n_iinc (fun x2 => [some (vR o 0), some (vI a1), some (vI l2), some (vI l3), some (vI x2)]) C dX0_brothersOf_52 rfl (by decide) (fun _ => rfl) (fun x2 ex2 => ?_)
      have h := h x2 ex2
      refine m_goto (tgt := 25) C dX0_brothersOf_55 (by decide) ?_
      exact h
    · have h := h.2 c
      refine m_iload_n C dX0_brothersOf_42 rfl ?_
      refine m_aload_n C dX0_brothersOf_43 rfl ?_
      refine f_getA C dX0_brothersOf_44 fl_KilnBench_Bench_31 hc_o (by decide) (by decide) (by decide) (by decide) ?_
      refine m_iload C dX0_brothersOf_47 rfl ?_
      obtain ⟨hb, h⟩ := h
      refine f_iald C dX0_brothersOf_49 (m_arO (a := 0) (len := 8) hc_o rfl) (by decide) hb ?_
      refine m_ior C dX0_brothersOf_50 ?_
      refine n_istore_n (fun x3 => [some (vR o 0), some (vI a1), some (vI x3), some (vI l3), some (vI l4)]) C dX0_brothersOf_51 (by decide) (fun _ => rfl) (fun x3 ex3 => ?_)
      have h := h x3 ex3
      refine n_iinc (fun x4 => [some (vR o 0), some (vI a1), some (vI x3), some (vI l3), some (vI x4)]) C dX0_brothersOf_52 rfl (by decide) (fun _ => rfl) (fun x4 ex4 => ?_)
      have h := h x4 ex4
      refine m_goto (tgt := 25) C dX0_brothersOf_55 (by decide) ?_
      exact h

set_option maxRecDepth 20000 in
theorem VX0_keepFiring_0 {G : m_G} {X : m_X} {d : Nat} {K : m_M → Prop} (C : mC G X YX0_keepFiring (d + 1)) (R : r_v G X K) {μ : m_M} {o : Nat} {a1 : Int} {a2 : Int} {a3 : Int} (hc_o : m_cls o = 0)
    (h : ((8 ≤ μ o 0 9) → K μ) ∧ ((¬ 8 ≤ μ o 0 9) → ∀ x1 : Int, x1 = w32 ((μ o 0 9) * 4) → (0 ≤ x1 ∧ x1 < 32) ∧ ∀ μ2 : m_M, μ2 = m_up μ o 9 x1.toNat (μ o 0 0) → (0 ≤ w32 (x1 + 1) ∧ w32 (x1 + 1) < 32) ∧ ∀ μ3 : m_M, μ3 = m_up μ2 o 9 (w32 (x1 + 1)).toNat a1 → (0 ≤ w32 (x1 + 2) ∧ w32 (x1 + 2) < 32) ∧ ∀ μ4 : m_M, μ4 = m_up μ3 o 9 (w32 (x1 + 2)).toNat a2 → (0 ≤ w32 (x1 + 3) ∧ w32 (x1 + 3) < 32) ∧ ∀ μ5 : m_M, μ5 = m_up μ4 o 9 (w32 (x1 + 3)).toNat a3 → ∀ μ6 : m_M, μ6 = m_up μ5 o 0 9 (w32 ((μ5 o 0 9) + 1)) → K μ6)) :
    mW G X YX0_keepFiring μ 0 [some (vR o 0), some (vI a1), some (vI a2), some (vI a3), none] [] := by
  refine m_aload_n C dX0_keepFiring_0 rfl ?_
  refine f_getI C dX0_keepFiring_1 fl_KilnBench_Bench_40 hc_o (by decide) (by decide) ?_
  refine m_bipush C dX0_keepFiring_4 (by omega) ?_
  refine m_icmp_ge (tgt := 68) C dX0_keepFiring_6 (by decide) (fun c => ?_) (fun c => ?_)
  · have h := h.1 c
    exact f_vret C R rfl dX0_keepFiring_68 h
  · have h := h.2 c
    refine m_aload_n C dX0_keepFiring_9 rfl ?_
    refine f_getI C dX0_keepFiring_10 fl_KilnBench_Bench_40 hc_o (by decide) (by decide) ?_
    refine m_iconst C dX0_keepFiring_13 (by unfold in32; omega) ?_
    refine m_imul C dX0_keepFiring_14 ?_
    refine n_istore (fun x1 => [some (vR o 0), some (vI a1), some (vI a2), some (vI a3), some (vI x1)]) C dX0_keepFiring_15 (by decide) (fun _ => rfl) (fun x1 ex1 => ?_)
    have h := h x1 ex1
    refine m_aload_n C dX0_keepFiring_17 rfl ?_
    refine f_getA C dX0_keepFiring_18 fl_KilnBench_Bench_37 hc_o (by decide) (by decide) (by decide) (by decide) ?_
    refine m_iload C dX0_keepFiring_21 rfl ?_
    refine m_aload_n C dX0_keepFiring_23 rfl ?_
    refine f_getI C dX0_keepFiring_24 fl_KilnBench_Bench_9 hc_o (by decide) (by decide) ?_
    obtain ⟨hb, h⟩ := h
    refine f_iast C dX0_keepFiring_27 (m_arO (a := 0) (len := 32) hc_o rfl) (by decide) hb ?_
    refine n_mem (fun μ2 eμ2 => ?_)
    have h := h μ2 eμ2
    refine m_aload_n C dX0_keepFiring_28 rfl ?_
    refine f_getA C dX0_keepFiring_29 fl_KilnBench_Bench_37 hc_o (by decide) (by decide) (by decide) (by decide) ?_
    refine m_iload C dX0_keepFiring_32 rfl ?_
    refine m_iconst C dX0_keepFiring_34 (by unfold in32; omega) ?_
    refine m_iadd C dX0_keepFiring_35 ?_
    refine m_iload_n C dX0_keepFiring_36 rfl ?_
    obtain ⟨hb, h⟩ := h
    refine f_iast C dX0_keepFiring_37 (m_arO (a := 0) (len := 32) hc_o rfl) (by decide) hb ?_
    refine n_mem (fun μ3 eμ3 => ?_)
    have h := h μ3 eμ3
    refine m_aload_n C dX0_keepFiring_38 rfl ?_
    refine f_getA C dX0_keepFiring_39 fl_KilnBench_Bench_37 hc_o (by decide) (by decide) (by decide) (by decide) ?_
    refine m_iload C dX0_keepFiring_42 rfl ?_
    refine m_iconst C dX0_keepFiring_44 (by unfold in32; omega) ?_
    refine m_iadd C dX0_keepFiring_45 ?_
    refine m_iload_n C dX0_keepFiring_46 rfl ?_
    obtain ⟨hb, h⟩ := h
    refine f_iast C dX0_keepFiring_47 (m_arO (a := 0) (len := 32) hc_o rfl) (by decide) hb ?_
    refine n_mem (fun μ4 eμ4 => ?_)
    have h := h μ4 eμ4
    refine m_aload_n C dX0_keepFiring_48 rfl ?_
    refine f_getA C dX0_keepFiring_49 fl_KilnBench_Bench_37 hc_o (by decide) (by decide) (by decide) (by decide) ?_
    refine m_iload C dX0_keepFiring_52 rfl ?_
    refine m_iconst C dX0_keepFiring_54 (by unfold in32; omega) ?_
    refine m_iadd C dX0_keepFiring_55 ?_
    refine m_iload_n C dX0_keepFiring_56 rfl ?_
    obtain ⟨hb, h⟩ := h
    refine f_iast C dX0_keepFiring_57 (m_arO (a := 0) (len := 32) hc_o rfl) (by decide) hb ?_
    refine n_mem (fun μ5 eμ5 => ?_)
    have h := h μ5 eμ5
    refine m_aload_n C dX0_keepFiring_58 rfl ?_
    refine m_dup C dX0_keepFiring_59 rfl ?_
    refine f_getI C dX0_keepFiring_60 fl_KilnBench_Bench_40 hc_o (by decide) (by decide) ?_
    refine m_iconst C dX0_keepFiring_63 (by unfold in32; omega) ?_
    refine m_iadd C dX0_keepFiring_64 ?_
    refine f_putI C dX0_keepFiring_65 fl_KilnBench_Bench_40 hc_o (by decide) (by decide) (by decide) ?_
    refine n_mem (fun μ6 eμ6 => ?_)
    have h := h μ6 eμ6
    exact f_vret C R rfl dX0_keepFiring_68 h

set_option maxRecDepth 20000 in
theorem VJ6_bitCount_0f7a4_0 {G : m_G} {X : m_X} {d : Nat} {K : Int → m_M → Prop} (C : mC G X YJ6_bitCount_0f7a4 (d + 1)) (R : r_i G X K) {μ : m_M} {a1 : Int}
    (h : ∀ x1 : Int, x1 = w32 (a1 - (i_and (i_ushr a1 1) 1431655765)) → ∀ x2 : Int, x2 = w32 ((i_and x1 858993459) + (i_and (i_ushr x1 2) 858993459)) → ∀ x3 : Int, x3 = i_and (w32 (x2 + (i_ushr x2 4))) 252645135 → ∀ x4 : Int, x4 = w32 (x3 + (i_ushr x3 8)) → ∀ x5 : Int, x5 = w32 (x4 + (i_ushr x4 16)) → K (i_and x5 63) μ) :
    mW G X YJ6_bitCount_0f7a4 μ 0 [some (vI a1)] [] := by
  refine m_iload_n C dJ6_bitCount_0f7a4_0 rfl ?_
  refine m_iload_n C dJ6_bitCount_0f7a4_1 rfl ?_
  refine m_iconst C dJ6_bitCount_0f7a4_2 (by unfold in32; omega) ?_
  refine m_iushr C dJ6_bitCount_0f7a4_3 ?_
  refine m_ldcw (x := 1431655765) C dJ6_bitCount_0f7a4_4 lc_Integer_265 rfl ?_
  refine m_iand C dJ6_bitCount_0f7a4_7 ?_
  refine m_isub C dJ6_bitCount_0f7a4_8 ?_
  refine n_istore_n (fun x1 => [some (vI x1)]) C dJ6_bitCount_0f7a4_9 (by decide) (fun _ => rfl) (fun x1 ex1 => ?_)
  have h := h x1 ex1
  refine m_iload_n C dJ6_bitCount_0f7a4_10 rfl ?_
  refine m_ldcw (x := 858993459) C dJ6_bitCount_0f7a4_11 lc_Integer_266 rfl ?_
  refine m_iand C dJ6_bitCount_0f7a4_14 ?_
  refine m_iload_n C dJ6_bitCount_0f7a4_15 rfl ?_
  refine m_iconst C dJ6_bitCount_0f7a4_16 (by unfold in32; omega) ?_
  refine m_iushr C dJ6_bitCount_0f7a4_17 ?_
  refine m_ldcw (x := 858993459) C dJ6_bitCount_0f7a4_18 lc_Integer_266 rfl ?_
  refine m_iand C dJ6_bitCount_0f7a4_21 ?_
  refine m_iadd C dJ6_bitCount_0f7a4_22 ?_
  refine n_istore_n (fun x2 => [some (vI x2)]) C dJ6_bitCount_0f7a4_23 (by decide) (fun _ => rfl) (fun x2 ex2 => ?_)
  have h := h x2 ex2
  refine m_iload_n C dJ6_bitCount_0f7a4_24 rfl ?_
  refine m_iload_n C dJ6_bitCount_0f7a4_25 rfl ?_
  refine m_iconst C dJ6_bitCount_0f7a4_26 (by unfold in32; omega) ?_
  refine m_iushr C dJ6_bitCount_0f7a4_27 ?_
  refine m_iadd C dJ6_bitCount_0f7a4_28 ?_
  refine m_ldcw (x := 252645135) C dJ6_bitCount_0f7a4_29 lc_Integer_267 rfl ?_
  refine m_iand C dJ6_bitCount_0f7a4_32 ?_
  refine n_istore_n (fun x3 => [some (vI x3)]) C dJ6_bitCount_0f7a4_33 (by decide) (fun _ => rfl) (fun x3 ex3 => ?_)
  have h := h x3 ex3
  refine m_iload_n C dJ6_bitCount_0f7a4_34 rfl ?_
  refine m_iload_n C dJ6_bitCount_0f7a4_35 rfl ?_
  refine m_bipush C dJ6_bitCount_0f7a4_36 (by omega) ?_
  refine m_iushr C dJ6_bitCount_0f7a4_38 ?_
  refine m_iadd C dJ6_bitCount_0f7a4_39 ?_
  refine n_istore_n (fun x4 => [some (vI x4)]) C dJ6_bitCount_0f7a4_40 (by decide) (fun _ => rfl) (fun x4 ex4 => ?_)
  have h := h x4 ex4
  refine m_iload_n C dJ6_bitCount_0f7a4_41 rfl ?_
  refine m_iload_n C dJ6_bitCount_0f7a4_42 rfl ?_
  refine m_bipush C dJ6_bitCount_0f7a4_43 (by omega) ?_
  refine m_iushr C dJ6_bitCount_0f7a4_45 ?_
  refine m_iadd C dJ6_bitCount_0f7a4_46 ?_
  refine n_istore_n (fun x5 => [some (vI x5)]) C dJ6_bitCount_0f7a4_47 (by decide) (fun _ => rfl) (fun x5 ex5 => ?_)
  have h := h x5 ex5
  refine m_iload_n C dJ6_bitCount_0f7a4_48 rfl ?_
  refine m_bipush C dJ6_bitCount_0f7a4_49 (by omega) ?_
  refine m_iand C dJ6_bitCount_0f7a4_51 ?_
  exact f_iret C R rfl dJ6_bitCount_0f7a4_52 h

set_option maxRecDepth 20000 in
theorem VJ9_floorDiv_7cf53_0 {G : m_G} {X : m_X} {d : Nat} {K : Int → m_M → Prop} (C : mC G X YJ9_floorDiv_7cf53 (d + 1)) (R : r_i G X K) {μ : m_M} {a1 : Int} {a2 : Int}
    (h : a2 ≠ 0 ∧ ∀ x1 : Int, x1 = w32 (a1.tdiv a2) → ((0 ≤ i_xor a1 a2) → K x1 μ) ∧ ((¬ 0 ≤ i_xor a1 a2) → ((w32 (x1 * a2) = a1) → K x1 μ) ∧ ((¬ w32 (x1 * a2) = a1) → K (w32 (x1 - 1)) μ))) :
    mW G X YJ9_floorDiv_7cf53 μ 0 [some (vI a1), some (vI a2), none] [] := by
  refine m_iload_n C dJ9_floorDiv_7cf53_0 rfl ?_
  refine m_iload_n C dJ9_floorDiv_7cf53_1 rfl ?_
  obtain ⟨hne, h⟩ := h
  refine m_idiv C dJ9_floorDiv_7cf53_2 hne ?_
  refine n_istore_n (fun x1 => [some (vI a1), some (vI a2), some (vI x1)]) C dJ9_floorDiv_7cf53_3 (by decide) (fun _ => rfl) (fun x1 ex1 => ?_)
  have h := h x1 ex1
  refine m_iload_n C dJ9_floorDiv_7cf53_4 rfl ?_
  refine m_iload_n C dJ9_floorDiv_7cf53_5 rfl ?_
  refine m_ixor C dJ9_floorDiv_7cf53_6 ?_
  refine m_if_ge (tgt := 21) C dJ9_floorDiv_7cf53_7 (by decide) (fun c => ?_) (fun c => ?_)
  · have h := h.1 c
    refine m_iload_n C dJ9_floorDiv_7cf53_21 rfl ?_
    exact f_iret C R rfl dJ9_floorDiv_7cf53_22 h
  · have h := h.2 c
    refine m_iload_n C dJ9_floorDiv_7cf53_10 rfl ?_
    refine m_iload_n C dJ9_floorDiv_7cf53_11 rfl ?_
    refine m_imul C dJ9_floorDiv_7cf53_12 ?_
    refine m_iload_n C dJ9_floorDiv_7cf53_13 rfl ?_
    refine m_icmp_eq (tgt := 21) C dJ9_floorDiv_7cf53_14 (by decide) (fun c => ?_) (fun c => ?_)
    · have h := h.1 c
      refine m_iload_n C dJ9_floorDiv_7cf53_21 rfl ?_
      exact f_iret C R rfl dJ9_floorDiv_7cf53_22 h
    · have h := h.2 c
      refine m_iload_n C dJ9_floorDiv_7cf53_17 rfl ?_
      refine m_iconst C dJ9_floorDiv_7cf53_18 (by unfold in32; omega) ?_
      refine m_isub C dJ9_floorDiv_7cf53_19 ?_
      exact f_iret C R rfl dJ9_floorDiv_7cf53_20 h

set_option maxRecDepth 20000 in
theorem VJ9_floorMod_7cf53_0 {G : m_G} {X : m_X} {d : Nat} {K : Int → m_M → Prop} (C : mC G X YJ9_floorMod_7cf53 (d + 1)) (R : r_i G X K) {μ : m_M} {a1 : Int} {a2 : Int}
    (h : a2 ≠ 0 ∧ ∀ x1 : Int, x1 = a1.tmod a2 → ((0 ≤ i_xor a1 a2) → K x1 μ) ∧ ((¬ 0 ≤ i_xor a1 a2) → ((x1 = 0) → K x1 μ) ∧ ((¬ x1 = 0) → K (w32 (x1 + a2)) μ))) :
    mW G X YJ9_floorMod_7cf53 μ 0 [some (vI a1), some (vI a2), none] [] := by
  refine m_iload_n C dJ9_floorMod_7cf53_0 rfl ?_
  refine m_iload_n C dJ9_floorMod_7cf53_1 rfl ?_
  obtain ⟨hne, h⟩ := h
  refine m_irem C dJ9_floorMod_7cf53_2 hne ?_
  refine n_istore_n (fun x1 => [some (vI a1), some (vI a2), some (vI x1)]) C dJ9_floorMod_7cf53_3 (by decide) (fun _ => rfl) (fun x1 ex1 => ?_)
  have h := h x1 ex1
  refine m_iload_n C dJ9_floorMod_7cf53_4 rfl ?_
  refine m_iload_n C dJ9_floorMod_7cf53_5 rfl ?_
  refine m_ixor C dJ9_floorMod_7cf53_6 ?_
  refine m_if_ge (tgt := 18) C dJ9_floorMod_7cf53_7 (by decide) (fun c => ?_) (fun c => ?_)
  · have h := h.1 c
    refine m_iload_n C dJ9_floorMod_7cf53_18 rfl ?_
    exact f_iret C R rfl dJ9_floorMod_7cf53_19 h
  · have h := h.2 c
    refine m_iload_n C dJ9_floorMod_7cf53_10 rfl ?_
    refine m_if_eq (tgt := 18) C dJ9_floorMod_7cf53_11 (by decide) (fun c => ?_) (fun c => ?_)
    · have h := h.1 c
      refine m_iload_n C dJ9_floorMod_7cf53_18 rfl ?_
      exact f_iret C R rfl dJ9_floorMod_7cf53_19 h
    · have h := h.2 c
      refine m_iload_n C dJ9_floorMod_7cf53_14 rfl ?_
      refine m_iload_n C dJ9_floorMod_7cf53_15 rfl ?_
      refine m_iadd C dJ9_floorMod_7cf53_16 ?_
      exact f_iret C R rfl dJ9_floorMod_7cf53_17 h

set_option maxRecDepth 20000 in
theorem VJ7_fill_53178_0 {G : m_G} {X : m_X} {d : Nat} {K : m_M → Prop} (C : mC G X YJ7_fill_53178 (d + 1)) (R : r_v G X K) {μ : m_M} {a1 : Nat} {a1w : Nat} {a1n : Nat} {a2 : Int} (ha_a1 : m_ar a1 a1w = (0, a1n)) (hw_a1 : a1w ≠ 0) (hn_a1 : a1n < 2147483648)
    (h : ∀ x2 : Int, x2 = (a1n : Int) → mW G X YJ7_fill_53178 μ 5 [some (vR a1 a1w), some (vI a2), some (vI 0), some (vI x2)] []) :
    mW G X YJ7_fill_53178 μ 0 [some (vR a1 a1w), some (vI a2), none, none] [] := by
  refine m_iconst C dJ7_fill_53178_0 (by unfold in32; omega) ?_
  refine o_istore_n [some (vR a1 a1w), some (vI a2), some (vI 0), none] C dJ7_fill_53178_1 (by decide) rfl ?_
  refine m_aload_n C dJ7_fill_53178_2 rfl ?_
  refine f_alen C dJ7_fill_53178_3 ha_a1 (by decide) hw_a1 hn_a1 ?_
  refine n_istore_n (fun x2 => [some (vR a1 a1w), some (vI a2), some (vI 0), some (vI x2)]) C dJ7_fill_53178_4 (by decide) (fun _ => rfl) (fun x2 ex2 => ?_)
  have h := h x2 ex2
  exact h

set_option maxRecDepth 20000 in
theorem VJ7_fill_53178_5 {G : m_G} {X : m_X} {d : Nat} {K : m_M → Prop} (C : mC G X YJ7_fill_53178 (d + 1)) (R : r_v G X K) {μ : m_M} {a1 : Nat} {a1w : Nat} {a1n : Nat} {a2 : Int} {l2 : Int} {l3 : Int} (ha_a1 : m_ar a1 a1w = (0, a1n)) (hw_a1 : a1w ≠ 0) (hn_a1 : a1n < 2147483648)
    (h : ((l3 ≤ l2) → K μ) ∧ ((¬ l3 ≤ l2) → (0 ≤ l2 ∧ l2 < (a1n : Int)) ∧ ∀ μ1 : m_M, μ1 = m_up μ a1 a1w l2.toNat a2 → ∀ x2 : Int, x2 = w32 (l2 + 1) → mW G X YJ7_fill_53178 μ1 5 [some (vR a1 a1w), some (vI a2), some (vI x2), some (vI l3)] [])) :
    mW G X YJ7_fill_53178 μ 5 [some (vR a1 a1w), some (vI a2), some (vI l2), some (vI l3)] [] := by
  refine m_iload_n C dJ7_fill_53178_5 rfl ?_
  refine m_iload_n C dJ7_fill_53178_6 rfl ?_
  refine m_icmp_ge (tgt := 20) C dJ7_fill_53178_7 (by decide) (fun c => ?_) (fun c => ?_)
  · have h := h.1 c
    exact f_vret C R rfl dJ7_fill_53178_20 h
  · have h := h.2 c
    refine m_aload_n C dJ7_fill_53178_10 rfl ?_
    refine m_iload_n C dJ7_fill_53178_11 rfl ?_
    refine m_iload_n C dJ7_fill_53178_12 rfl ?_
    obtain ⟨hb, h⟩ := h
    refine f_iast C dJ7_fill_53178_13 ha_a1 hw_a1 hb ?_
    refine n_mem (fun μ1 eμ1 => ?_)
    have h := h μ1 eμ1
    refine n_iinc (fun x2 => [some (vR a1 a1w), some (vI a2), some (vI x2), some (vI l3)]) C dJ7_fill_53178_14 rfl (by decide) (fun _ => rfl) (fun x2 ex2 => ?_)
    have h := h x2 ex2
    refine m_goto (tgt := 5) C dJ7_fill_53178_17 (by decide) ?_
    exact h

set_option maxRecDepth 20000 in
theorem VJ7_fill_031fb_0 {G : m_G} {X : m_X} {d : Nat} {K : m_M → Prop} (C : mC G X YJ7_fill_031fb (d + 1)) (R : r_v G X K) {μ : m_M} {a1 : Nat} {a1w : Nat} {a1n : Nat} {a2 : Int} (ha_a1 : m_ar a1 a1w = (1, a1n)) (hw_a1 : a1w ≠ 0) (hn_a1 : a1n < 2147483648)
    (h : ∀ x2 : Int, x2 = (a1n : Int) → mW G X YJ7_fill_031fb μ 5 [some (vR a1 a1w), some (vI a2), some (vI 0), some (vI x2)] []) :
    mW G X YJ7_fill_031fb μ 0 [some (vR a1 a1w), some (vI a2), none, none] [] := by
  refine m_iconst C dJ7_fill_031fb_0 (by unfold in32; omega) ?_
  refine o_istore_n [some (vR a1 a1w), some (vI a2), some (vI 0), none] C dJ7_fill_031fb_1 (by decide) rfl ?_
  refine m_aload_n C dJ7_fill_031fb_2 rfl ?_
  refine f_alen C dJ7_fill_031fb_3 ha_a1 (by decide) hw_a1 hn_a1 ?_
  refine n_istore_n (fun x2 => [some (vR a1 a1w), some (vI a2), some (vI 0), some (vI x2)]) C dJ7_fill_031fb_4 (by decide) (fun _ => rfl) (fun x2 ex2 => ?_)
  have h := h x2 ex2
  exact h

set_option maxRecDepth 20000 in
theorem VJ7_fill_031fb_5 {G : m_G} {X : m_X} {d : Nat} {K : m_M → Prop} (C : mC G X YJ7_fill_031fb (d + 1)) (R : r_v G X K) {μ : m_M} {a1 : Nat} {a1w : Nat} {a1n : Nat} {a2 : Int} {l2 : Int} {l3 : Int} (ha_a1 : m_ar a1 a1w = (1, a1n)) (hw_a1 : a1w ≠ 0) (hn_a1 : a1n < 2147483648)
    (h : ((l3 ≤ l2) → K μ) ∧ ((¬ l3 ≤ l2) → (0 ≤ l2 ∧ l2 < (a1n : Int)) ∧ ∀ μ1 : m_M, μ1 = m_up μ a1 a1w l2.toNat (i_b a2) → ∀ x2 : Int, x2 = w32 (l2 + 1) → mW G X YJ7_fill_031fb μ1 5 [some (vR a1 a1w), some (vI a2), some (vI x2), some (vI l3)] [])) :
    mW G X YJ7_fill_031fb μ 5 [some (vR a1 a1w), some (vI a2), some (vI l2), some (vI l3)] [] := by
  refine m_iload_n C dJ7_fill_031fb_5 rfl ?_
  refine m_iload_n C dJ7_fill_031fb_6 rfl ?_
  refine m_icmp_ge (tgt := 20) C dJ7_fill_031fb_7 (by decide) (fun c => ?_) (fun c => ?_)
  · have h := h.1 c
    exact f_vret C R rfl dJ7_fill_031fb_20 h
  · have h := h.2 c
    refine m_aload_n C dJ7_fill_031fb_10 rfl ?_
    refine m_iload_n C dJ7_fill_031fb_11 rfl ?_
    refine m_iload_n C dJ7_fill_031fb_12 rfl ?_
    obtain ⟨hb, h⟩ := h
    refine f_bast C dJ7_fill_031fb_13 ha_a1 hw_a1 hb ?_
    refine n_mem (fun μ1 eμ1 => ?_)
    have h := h μ1 eμ1
    refine n_iinc (fun x2 => [some (vR a1 a1w), some (vI a2), some (vI x2), some (vI l3)]) C dJ7_fill_031fb_14 rfl (by decide) (fun _ => rfl) (fun x2 ex2 => ?_)
    have h := h x2 ex2
    refine m_goto (tgt := 5) C dJ7_fill_031fb_17 (by decide) ?_
    exact h

