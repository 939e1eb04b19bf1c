set_option maxRecDepth 20000 in
theorem VX11_feed_0 {G : m_G} {X : m_X} {d : Nat} {K : Int → m_M → Prop} (C : mC G X YX11_feed (d + 1)) (R : r_i G X K) {μ : m_M} {a1 : Int} {a2 : Int} {a3 : Int} {a4 : Int} {a5 : Int}
    (h : ((w32 ((μ 1 0 1) + 20) ≤ 1600) → c_v G d YX11_putWord [vR 1 0, vI a1] μ (fun μ1 => c_v G d YX11_putWord [vR 1 0, vI a2] μ1 (fun μ2 => c_v G d YX11_putWord [vR 1 0, vI a3] μ2 (fun μ3 => c_v G d YX11_putWord [vR 1 0, vI a4] μ3 (fun μ4 => c_v G d YX11_putWord [vR 1 0, vI a5] μ4 (fun μ5 => K (μ5 1 0 1) μ5)))))) ∧ ((¬ w32 ((μ 1 0 1) + 20) ≤ 1600) → c_i G d YX11_refuseWithNone [vR 1 0, vI 0] μ (fun r7 μ6 => K r7 μ6))) :
    mW G X YX11_feed μ 0 [some (vR 1 0), some (vI a1), some (vI a2), some (vI a3), some (vI a4), some (vI a5)] [] := by
  refine m_aload_n C dX11_feed_0 rfl ?_
  refine f_getI C dX11_feed_1 fl_KilnBench_13 rfl (by decide) (by decide) ?_
  refine m_bipush C dX11_feed_4 (by omega) ?_
  refine m_iadd C dX11_feed_6 ?_
  refine m_sipush C dX11_feed_7 (by omega) ?_
  refine m_icmp_le (tgt := 19) C dX11_feed_10 (by decide) (fun c => ?_) (fun c => ?_)
  · have h := h.1 c
    refine m_aload_n C dX11_feed_19 rfl ?_
    refine m_iload_n C dX11_feed_20 rfl ?_
    refine f_callVv (As := [vI a1]) (st := []) C dX11_feed_21 ml_KilnBench_103 rfl (by decide) rfl rfl rfl (Nat.le_of_ble_eq_true rfl) h (fun μ1 h => ?_)
    refine m_aload_n C dX11_feed_24 rfl ?_
    refine m_iload_n C dX11_feed_25 rfl ?_
    refine f_callVv (As := [vI a2]) (st := []) C dX11_feed_26 ml_KilnBench_103 rfl (by decide) rfl rfl rfl (Nat.le_of_ble_eq_true rfl) h (fun μ2 h => ?_)
    refine m_aload_n C dX11_feed_29 rfl ?_
    refine m_iload_n C dX11_feed_30 rfl ?_
    refine f_callVv (As := [vI a3]) (st := []) C dX11_feed_31 ml_KilnBench_103 rfl (by decide) rfl rfl rfl (Nat.le_of_ble_eq_true rfl) h (fun μ3 h => ?_)
    refine m_aload_n C dX11_feed_34 rfl ?_
    refine m_iload C dX11_feed_35 rfl ?_
    refine f_callVv (As := [vI a4]) (st := []) C dX11_feed_37 ml_KilnBench_103 rfl (by decide) rfl rfl rfl (Nat.le_of_ble_eq_true rfl) h (fun μ4 h => ?_)
    refine m_aload_n C dX11_feed_40 rfl ?_
    refine m_iload C dX11_feed_41 rfl ?_
    refine f_callVv (As := [vI a5]) (st := []) C dX11_feed_43 ml_KilnBench_103 rfl (by decide) rfl rfl rfl (Nat.le_of_ble_eq_true rfl) h (fun μ5 h => ?_)
    refine m_aload_n C dX11_feed_46 rfl ?_
    refine f_getI C dX11_feed_47 fl_KilnBench_13 rfl (by decide) (by decide) ?_
    exact f_iret C R rfl dX11_feed_50 h
  · have h := h.2 c
    refine m_aload_n C dX11_feed_13 rfl ?_
    refine m_iconst C dX11_feed_14 (by unfold in32; omega) ?_
    refine f_callVi (As := [vI 0]) (st := []) C dX11_feed_15 ml_KilnBench_99 rfl (by decide) rfl rfl rfl (Nat.le_of_ble_eq_true rfl) h (fun r7 μ6 h => ?_)
    exact f_iret C R rfl dX11_feed_18 h

set_option maxRecDepth 20000 in
theorem VX11_end_0 {G : m_G} {X : m_X} {d : Nat} {K : Int → m_M → Prop} (C : mC G X YX11_end (d + 1)) (R : r_i G X K) {μ : m_M} {a1 : Int}
    (h : ((a1 < 0) → c_i G d YX11_refuseWithFalse [vR 1 0, vI 0] μ (fun r2 μ1 => (r2 = 0 ∨ r2 = 1) ∧ K r2 μ1)) ∧ ((¬ a1 < 0) → ((a1 ≤ μ 1 0 1) → ∀ μ3 : m_M, μ3 = m_up μ 1 0 1 a1 → K 1 μ3) ∧ ((¬ a1 ≤ μ 1 0 1) → c_i G d YX11_refuseWithFalse [vR 1 0, vI 0] μ (fun r5 μ4 => (r5 = 0 ∨ r5 = 1) ∧ K r5 μ4)))) :
    mW G X YX11_end μ 0 [some (vR 1 0), some (vI a1)] [] := by
  refine m_iload_n C dX11_end_0 rfl ?_
  refine m_if_lt (tgt := 12) C dX11_end_1 (by decide) (fun c => ?_) (fun c => ?_)
  · have h := h.1 c
    refine m_aload_n C dX11_end_12 rfl ?_
    refine m_iconst C dX11_end_13 (by unfold in32; omega) ?_
    refine f_callVi (As := [vI 0]) (st := []) C dX11_end_14 ml_KilnBench_107 rfl (by decide) rfl rfl rfl (Nat.le_of_ble_eq_true rfl) h (fun r2 μ1 h => ?_)
    exact f_zret C R rfl dX11_end_17 h.1 h.2
  · have h := h.2 c
    refine m_iload_n C dX11_end_4 rfl ?_
    refine m_aload_n C dX11_end_5 rfl ?_
    refine f_getI C dX11_end_6 fl_KilnBench_13 rfl (by decide) (by decide) ?_
    refine m_icmp_le (tgt := 18) C dX11_end_9 (by decide) (fun c => ?_) (fun c => ?_)
    · have h := h.1 c
      refine m_aload_n C dX11_end_18 rfl ?_
      refine m_iload_n C dX11_end_19 rfl ?_
      refine f_putI C dX11_end_20 fl_KilnBench_13 rfl (by decide) (by decide) (by decide) ?_
      refine n_mem (fun μ3 eμ3 => ?_)
      have h := h μ3 eμ3
      refine m_iconst C dX11_end_23 (by unfold in32; omega) ?_
      exact f_zret C R rfl dX11_end_24 (by decide) h
    · have h := h.2 c
      refine m_aload_n C dX11_end_12 rfl ?_
      refine m_iconst C dX11_end_13 (by unfold in32; omega) ?_
      refine f_callVi (As := [vI 0]) (st := []) C dX11_end_14 ml_KilnBench_107 rfl (by decide) rfl rfl rfl (Nat.le_of_ble_eq_true rfl) h (fun r5 μ4 h => ?_)
      exact f_zret C R rfl dX11_end_17 h.1 h.2

set_option maxRecDepth 20000 in
theorem VX11_town_0 {G : m_G} {X : m_X} {d : Nat} {K : Int → m_M → Prop} (C : mC G X YX11_town (d + 1)) (R : r_i G X K) {μ : m_M}
    (h : ∃ t1 : Nat, μ 1 0 3 = 100 * (t1 : Int) ∧ m_cls t1 = 9 ∧ c_i G d YX6_parse [vR 2 0, vR 1 1, vI (μ 1 0 1), vR t1 0] μ (fun r3 μ2 => ∀ μ5 : m_M, μ5 = m_up μ2 1 0 1 0 → c_i G d YX6_faultKind [vR 2 0] μ5 (fun r7 μ6 => ∀ μ8 : m_M, μ8 = m_up μ6 1 0 14 r7 → c_i G d YX6_faultPlace [vR 2 0] μ8 (fun r10 μ9 => ∀ μ11 : m_M, μ11 = m_up μ9 1 0 15 r10 → ((¬ r3 = 0) → ∃ t12 : Nat, μ11 1 0 2 = 100 * (t12 : Int) ∧ m_cls t12 = 9 ∧ ∃ t13 : Nat, μ11 1 0 3 = 100 * (t13 : Int) ∧ m_cls t13 = 9 ∧ ∀ μ14 : m_M, μ14 = m_up μ11 1 0 2 (100 * ((t13 : Nat) : Int) + ((0 : Nat) : Int)) → ∀ μ15 : m_M, μ15 = m_up μ14 1 0 3 (100 * ((t12 : Nat) : Int) + ((0 : Nat) : Int)) → ∃ t16 : Nat, μ15 1 0 2 = 100 * (t16 : Int) ∧ m_cls t16 = 9 ∧ ∀ μ17 : m_M, μ17 = m_up μ15 4 0 0 (100 * ((t16 : Nat) : Int) + ((0 : Nat) : Int)) → ∃ t18 : Nat, μ17 1 0 2 = 100 * (t18 : Int) ∧ m_cls t18 = 9 ∧ c_v G d YX0_begin [vR 10 0, vR t18 0] μ17 (fun μ19 => ∀ μ20 : m_M, μ20 = m_up μ19 8 0 0 0 → ∀ μ21 : m_M, μ21 = m_up μ20 6 0 2 0 → c_v G d YX1_forget [vR 7 0] μ21 (fun μ22 => ∃ t23 : Nat, μ22 1 0 2 = 100 * (t23 : Int) ∧ m_cls t23 = 9 ∧ K (μ22 t23 0 10) μ22))) ∧ ((r3 = 0) → c_i G d YX11_refuseWithNone [vR 1 0, vI 1] μ11 (fun r25 μ24 => K r25 μ24)))))) :
    mW G X YX11_town μ 0 [some (vR 1 0), none, none] [] := by
  refine m_aload_n C dX11_town_0 rfl ?_
  refine f_getO (t := 2) C dX11_town_1 fl_KilnBench_32 rfl (by decide) (by decide) (by decide) (by decide) ?_
  refine m_aload_n C dX11_town_4 rfl ?_
  refine f_getA C dX11_town_5 fl_KilnBench_9 rfl (by decide) (by decide) (by decide) (by decide) ?_
  refine m_aload_n C dX11_town_8 rfl ?_
  refine f_getI C dX11_town_9 fl_KilnBench_13 rfl (by decide) (by decide) ?_
  refine m_aload_n C dX11_town_12 rfl ?_
  obtain ⟨t1, hx_t1, hc_t1, h⟩ := h
  refine f_getR (t := t1) (w := 0) C dX11_town_13 fl_KilnBench_24 rfl (by decide) (by decide) (by rw [hx_t1]; omega) (by decide) (m_cls0 hc_t1 (by decide)) ?_
  refine f_callVi (As := [vR 1 1, vI (μ 1 0 1), vR t1 0]) (st := []) C dX11_town_16 ml_KilnBench_111 rfl (by decide) rfl rfl rfl (Nat.le_of_ble_eq_true rfl) h (fun r3 μ2 h => ?_)
  refine o_istore_n [some (vR 1 0), some (vI r3), none] C dX11_town_19 (by decide) rfl ?_
  refine m_aload_n C dX11_town_20 rfl ?_
  refine m_iconst C dX11_town_21 (by unfold in32; omega) ?_
  refine f_putI C dX11_town_22 fl_KilnBench_13 rfl (by decide) (by decide) (by decide) ?_
  refine n_mem (fun μ5 eμ5 => ?_)
  have h := h μ5 eμ5
  refine m_aload_n C dX11_town_25 rfl ?_
  refine m_aload_n C dX11_town_26 rfl ?_
  refine f_getO (t := 2) C dX11_town_27 fl_KilnBench_32 rfl (by decide) (by decide) (by decide) (by decide) ?_
  refine f_callVi (As := []) (st := [vR 1 0]) C dX11_town_30 ml_KilnBench_115 rfl (by decide) rfl rfl rfl (Nat.le_of_ble_eq_true rfl) h (fun r7 μ6 h => ?_)
  refine f_putI C dX11_town_33 fl_KilnBench_90 rfl (by decide) (by decide) (by decide) ?_
  refine n_mem (fun μ8 eμ8 => ?_)
  have h := h μ8 eμ8
  refine m_aload_n C dX11_town_36 rfl ?_
  refine m_aload_n C dX11_town_37 rfl ?_
  refine f_getO (t := 2) C dX11_town_38 fl_KilnBench_32 rfl (by decide) (by decide) (by decide) (by decide) ?_
  refine f_callVi (As := []) (st := [vR 1 0]) C dX11_town_41 ml_KilnBench_118 rfl (by decide) rfl rfl rfl (Nat.le_of_ble_eq_true rfl) h (fun r10 μ9 h => ?_)
  refine f_putI C dX11_town_44 fl_KilnBench_93 rfl (by decide) (by decide) (by decide) ?_
  refine n_mem (fun μ11 eμ11 => ?_)
  have h := h μ11 eμ11
  refine m_iload_n C dX11_town_47 rfl ?_
  refine m_if_ne (tgt := 57) C dX11_town_48 (by decide) (fun c => ?_) (fun c => ?_)
  · have h := h.1 c
    refine m_aload_n C dX11_town_57 rfl ?_
    obtain ⟨t12, hx_t12, hc_t12, h⟩ := h
    refine f_getR (t := t12) (w := 0) C dX11_town_58 fl_KilnBench_20 rfl (by decide) (by decide) (by rw [hx_t12]; omega) (by decide) (m_cls0 hc_t12 (by decide)) ?_
    refine n_astore_n [some (vR 1 0), some (vI r3), some (vR t12 0)] C dX11_town_61 (by decide) rfl ?_
    refine m_aload_n C dX11_town_62 rfl ?_
    refine m_aload_n C dX11_town_63 rfl ?_
    obtain ⟨t13, hx_t13, hc_t13, h⟩ := h
    refine f_getR (t := t13) (w := 0) C dX11_town_64 fl_KilnBench_24 rfl (by decide) (by decide) (by rw [hx_t13]; omega) (by decide) (m_cls0 hc_t13 (by decide)) ?_
    refine f_putR C dX11_town_67 fl_KilnBench_20 rfl (by decide) (by decide) (by decide) (by decide) (m_cls0 hc_t13 (by decide)) ?_
    refine n_mem (fun μ14 eμ14 => ?_)
    have h := h μ14 eμ14
    refine m_aload_n C dX11_town_70 rfl ?_
    refine m_aload_n C dX11_town_71 rfl ?_
    refine f_putR C dX11_town_72 fl_KilnBench_24 rfl (by decide) (by decide) (by decide) (by decide) (m_cls0 hc_t12 (by decide)) ?_
    refine n_mem (fun μ15 eμ15 => ?_)
    have h := h μ15 eμ15
    refine m_aload_n C dX11_town_75 rfl ?_
    refine f_getO (t := 4) C dX11_town_76 fl_KilnBench_39 rfl (by decide) (by decide) (by decide) (by decide) ?_
    refine m_aload_n C dX11_town_79 rfl ?_
    obtain ⟨t16, hx_t16, hc_t16, h⟩ := h
    refine f_getR (t := t16) (w := 0) C dX11_town_80 fl_KilnBench_20 rfl (by decide) (by decide) (by rw [hx_t16]; omega) (by decide) (m_cls0 hc_t16 (by decide)) ?_
    refine f_putR C dX11_town_83 fl_KilnBench_120 rfl (by decide) (by decide) (by decide) (by decide) (m_cls0 hc_t16 (by decide)) ?_
    refine n_mem (fun μ17 eμ17 => ?_)
    have h := h μ17 eμ17
    refine m_aload_n C dX11_town_86 rfl ?_
    refine f_getO (t := 10) C dX11_town_87 fl_KilnBench_46 rfl (by decide) (by decide) (by decide) (by decide) ?_
    refine m_aload_n C dX11_town_90 rfl ?_
    obtain ⟨t18, hx_t18, hc_t18, h⟩ := h
    refine f_getR (t := t18) (w := 0) C dX11_town_91 fl_KilnBench_20 rfl (by decide) (by decide) (by rw [hx_t18]; omega) (by decide) (m_cls0 hc_t18 (by decide)) ?_
    refine f_callVv (As := [vR t18 0]) (st := []) C dX11_town_94 ml_KilnBench_96 rfl (by decide) rfl rfl rfl (Nat.le_of_ble_eq_true rfl) h (fun μ19 h => ?_)
    refine m_aload_n C dX11_town_97 rfl ?_
    refine f_getO (t := 8) C dX11_town_98 fl_KilnBench_72 rfl (by decide) (by decide) (by decide) (by decide) ?_
    refine m_iconst C dX11_town_101 (by unfold in32; omega) ?_
    refine f_putI C dX11_town_102 fl_KilnBench_121 rfl (by decide) (by decide) (by decide) ?_
    refine n_mem (fun μ20 eμ20 => ?_)
    have h := h μ20 eμ20
    refine m_aload_n C dX11_town_105 rfl ?_
    refine f_getO (t := 6) C dX11_town_106 fl_KilnBench_56 rfl (by decide) (by decide) (by decide) (by decide) ?_
    refine m_iconst C dX11_town_109 (by unfold in32; omega) ?_
    refine f_putI C dX11_town_110 fl_KilnBench_124 rfl (by decide) (by decide) (by decide) ?_
    refine n_mem (fun μ21 eμ21 => ?_)
    have h := h μ21 eμ21
    refine m_aload_n C dX11_town_113 rfl ?_
    refine f_getO (t := 7) C dX11_town_114 fl_KilnBench_65 rfl (by decide) (by decide) (by decide) (by decide) ?_
    refine f_callVv (As := []) (st := []) C dX11_town_117 ml_KilnBench_125 rfl (by decide) rfl rfl rfl (Nat.le_of_ble_eq_true rfl) h (fun μ22 h => ?_)
    refine m_aload_n C dX11_town_120 rfl ?_
    obtain ⟨t23, hx_t23, hc_t23, h⟩ := h
    refine f_getR (t := t23) (w := 0) C dX11_town_121 fl_KilnBench_20 rfl (by decide) (by decide) (by rw [hx_t23]; omega) (by decide) (m_cls0 hc_t23 (by decide)) ?_
    refine f_getI C dX11_town_124 fl_KilnBench_128 hc_t23 (by decide) (by decide) ?_
    exact f_iret C R rfl dX11_town_127 h
  · have h := h.2 c
    refine m_aload_n C dX11_town_51 rfl ?_
    refine m_iconst C dX11_town_52 (by unfold in32; omega) ?_
    refine f_callVi (As := [vI 1]) (st := []) C dX11_town_53 ml_KilnBench_99 rfl (by decide) rfl rfl rfl (Nat.le_of_ble_eq_true rfl) h (fun r25 μ24 h => ?_)
    exact f_iret C R rfl dX11_town_56 h

set_option maxRecDepth 20000 in
theorem VX11_fault_0 {G : m_G} {X : m_X} {d : Nat} {K : Int → m_M → Prop} (C : mC G X YX11_fault (d + 1)) (R : r_i G X K) {μ : m_M} {a1 : Int}
    (h : ((a1 = 0) → K (μ 1 0 14) μ) ∧ ((a1 = 1) → K (μ 1 0 15) μ) ∧ ((¬ a1 = 0 ∧ ¬ a1 = 1) → K (-1) μ)) :
    mW G X YX11_fault μ 0 [some (vR 1 0), some (vI a1)] [] := by
  refine m_iload_n C dX11_fault_0 rfl ?_
  by_cases hx0 : a1 = 0
  · have h := h.1 hx0
    refine m_lsw (tgt := 28) (off := 27) C dX11_fault_1 (by decide) (by rw [hx0]; decide) (by decide) ?_
    refine m_aload_n C dX11_fault_28 rfl ?_
    refine f_getI C dX11_fault_29 fl_KilnBench_90 rfl (by decide) (by decide) ?_
    exact f_iret C R rfl dX11_fault_32 h
  by_cases hx1 : a1 = 1
  · have h := h.2.1 hx1
    refine m_lsw (tgt := 33) (off := 32) C dX11_fault_1 (by decide) (by rw [hx1]; decide) (by decide) ?_
    refine m_aload_n C dX11_fault_33 rfl ?_
    refine f_getI C dX11_fault_34 fl_KilnBench_93 rfl (by decide) (by decide) ?_
    exact f_iret C R rfl dX11_fault_37 h
  have h := h.2.2 ⟨hx0, hx1⟩
  refine m_lsw (tgt := 38) (off := 37) C dX11_fault_1 (by decide) (by simp only [Op.lookupswitch.offset]; rw [if_neg (fun e => hx0 e.symm), if_neg (fun e => hx1 e.symm)]) (by decide) ?_
  refine m_iconst C dX11_fault_38 (by unfold in32; omega) ?_
  exact f_iret C R rfl dX11_fault_39 h

set_option maxRecDepth 20000 in
theorem VX11_has_0 {G : m_G} {X : m_X} {d : Nat} {K : Int → m_M → Prop} (C : mC G X YX11_has (d + 1)) (R : r_i G X K) {μ : m_M} {a1 : Int}
    (h : ((a1 = 0) → ∃ t1 : Nat, μ 1 0 2 = 100 * (t1 : Int) ∧ m_cls t1 = 9 ∧ K (μ t1 0 3) μ) ∧ ((a1 = 1) → ∃ t2 : Nat, μ 1 0 2 = 100 * (t2 : Int) ∧ m_cls t2 = 9 ∧ K (μ t2 0 6) μ) ∧ ((a1 = 2) → K (μ 10 0 0) μ) ∧ ((a1 = 3) → K (μ 10 0 1) μ) ∧ ((a1 = 4) → c_i G d YX0_countSet [vR 10 0] μ (fun r4 μ3 => K r4 μ3)) ∧ ((a1 = 5) → c_i G d YX0_countFired [vR 10 0] μ (fun r6 μ5 => K r6 μ5)) ∧ ((a1 = 6) → c_i G d YX0_countCracked [vR 10 0] μ (fun r8 μ7 => K r8 μ7)) ∧ ((a1 = 7) → c_i G d YX0_countLit [vR 10 0] μ (fun r10 μ9 => K r10 μ9)) ∧ ((a1 = 8) → K (μ 10 0 9) μ) ∧ ((a1 = 9) → K (μ 8 0 0) μ) ∧ ((a1 = 10) → K (μ 6 0 2) μ) ∧ ((a1 = 11) → K (μ 1 0 13) μ) ∧ (((a1 < 0 ∨ 11 < a1)) → K (-1) μ)) :
    mW G X YX11_has μ 0 [some (vR 1 0), some (vI a1)] [] := by
  refine m_iload_n C dX11_has_0 rfl ?_
  by_cases hx : a1 < 0 ∨ 11 < a1
  · have h := h.2.2.2.2.2.2.2.2.2.2.2.2 (by omega)
    refine m_swOut (tgt := 157) C dX11_has_1 hx (by decide) ?_
    refine m_iconst C dX11_has_157 (by unfold in32; omega) ?_
    exact f_iret C R rfl dX11_has_158 h
  · have hx : a1 = 0 ∨ a1 = 1 ∨ a1 = 2 ∨ a1 = 3 ∨ a1 = 4 ∨ a1 = 5 ∨ a1 = 6 ∨ a1 = 7 ∨ a1 = 8 ∨ a1 = 9 ∨ a1 = 10 ∨ a1 = 11 := by omega
    rcases hx with hx | hx | hx | hx | hx | hx | hx | hx | hx | hx | hx | hx
    · have h := h.1 hx
      refine m_swIn (tgt := 64) (off := 63) C dX11_has_1 (by omega) (by omega) (by rw [hx]; rfl) (by decide) ?_
      refine m_aload_n C dX11_has_64 rfl ?_
      obtain ⟨t1, hx_t1, hc_t1, h⟩ := h
      refine f_getR (t := t1) (w := 0) C dX11_has_65 fl_KilnBench_20 rfl (by decide) (by decide) (by rw [hx_t1]; omega) (by decide) (m_cls0 hc_t1 (by decide)) ?_
      refine f_getI C dX11_has_68 fl_KilnBench_131 hc_t1 (by decide) (by decide) ?_
      exact f_iret C R rfl dX11_has_71 h
    · have h := h.2.1 hx
      refine m_swIn (tgt := 72) (off := 71) C dX11_has_1 (by omega) (by omega) (by rw [hx]; rfl) (by decide) ?_
      refine m_aload_n C dX11_has_72 rfl ?_
      obtain ⟨t2, hx_t2, hc_t2, h⟩ := h
      refine f_getR (t := t2) (w := 0) C dX11_has_73 fl_KilnBench_20 rfl (by decide) (by decide) (by rw [hx_t2]; omega) (by decide) (m_cls0 hc_t2 (by decide)) ?_
      refine f_getI C dX11_has_76 fl_KilnBench_134 hc_t2 (by decide) (by decide) ?_
      exact f_iret C R rfl dX11_has_79 h
    · have h := h.2.2.1 hx
      refine m_swIn (tgt := 80) (off := 79) C dX11_has_1 (by omega) (by omega) (by rw [hx]; rfl) (by decide) ?_
      refine m_aload_n C dX11_has_80 rfl ?_
      refine f_getO (t := 10) C dX11_has_81 fl_KilnBench_46 rfl (by decide) (by decide) (by decide) (by decide) ?_
      refine f_getI C dX11_has_84 fl_KilnBench_137 rfl (by decide) (by decide) ?_
      exact f_iret C R rfl dX11_has_87 h
    · have h := h.2.2.2.1 hx
      refine m_swIn (tgt := 88) (off := 87) C dX11_has_1 (by omega) (by omega) (by rw [hx]; rfl) (by decide) ?_
      refine m_aload_n C dX11_has_88 rfl ?_
      refine f_getO (t := 10) C dX11_has_89 fl_KilnBench_46 rfl (by decide) (by decide) (by decide) (by decide) ?_
      refine f_getI C dX11_has_92 fl_KilnBench_140 rfl (by decide) (by decide) ?_
      exact f_iret C R rfl dX11_has_95 h
    · have h := h.2.2.2.2.1 hx
      refine m_swIn (tgt := 96) (off := 95) C dX11_has_1 (by omega) (by omega) (by rw [hx]; rfl) (by decide) ?_
      refine m_aload_n C dX11_has_96 rfl ?_
      refine f_getO (t := 10) C dX11_has_97 fl_KilnBench_46 rfl (by decide) (by decide) (by decide) (by decide) ?_
      refine f_callVi (As := []) (st := []) C dX11_has_100 ml_KilnBench_143 rfl (by decide) rfl rfl rfl (Nat.le_of_ble_eq_true rfl) h (fun r4 μ3 h => ?_)
      exact f_iret C R rfl dX11_has_103 h
    · have h := h.2.2.2.2.2.1 hx
      refine m_swIn (tgt := 104) (off := 103) C dX11_has_1 (by omega) (by omega) (by rw [hx]; rfl) (by decide) ?_
      refine m_aload_n C dX11_has_104 rfl ?_
      refine f_getO (t := 10) C dX11_has_105 fl_KilnBench_46 rfl (by decide) (by decide) (by decide) (by decide) ?_
      refine f_callVi (As := []) (st := []) C dX11_has_108 ml_KilnBench_146 rfl (by decide) rfl rfl rfl (Nat.le_of_ble_eq_true rfl) h (fun r6 μ5 h => ?_)
      exact f_iret C R rfl dX11_has_111 h
    · have h := h.2.2.2.2.2.2.1 hx
      refine m_swIn (tgt := 112) (off := 111) C dX11_has_1 (by omega) (by omega) (by rw [hx]; rfl) (by decide) ?_
      refine m_aload_n C dX11_has_112 rfl ?_
      refine f_getO (t := 10) C dX11_has_113 fl_KilnBench_46 rfl (by decide) (by decide) (by decide) (by decide) ?_
      refine f_callVi (As := []) (st := []) C dX11_has_116 ml_KilnBench_149 rfl (by decide) rfl rfl rfl (Nat.le_of_ble_eq_true rfl) h (fun r8 μ7 h => ?_)
      exact f_iret C R rfl dX11_has_119 h
    · have h := h.2.2.2.2.2.2.2.1 hx
      refine m_swIn (tgt := 120) (off := 119) C dX11_has_1 (by omega) (by omega) (by rw [hx]; rfl) (by decide) ?_
      refine m_aload_n C dX11_has_120 rfl ?_
      refine f_getO (t := 10) C dX11_has_121 fl_KilnBench_46 rfl (by decide) (by decide) (by decide) (by decide) ?_
      refine f_callVi (As := []) (st := []) C dX11_has_124 ml_KilnBench_152 rfl (by decide) rfl rfl rfl (Nat.le_of_ble_eq_true rfl) h (fun r10 μ9 h => ?_)
      exact f_iret C R rfl dX11_has_127 h
    · have h := h.2.2.2.2.2.2.2.2.1 hx
      refine m_swIn (tgt := 128) (off := 127) C dX11_has_1 (by omega) (by omega) (by rw [hx]; rfl) (by decide) ?_
      refine m_aload_n C dX11_has_128 rfl ?_
      refine f_getO (t := 10) C dX11_has_129 fl_KilnBench_46 rfl (by decide) (by decide) (by decide) (by decide) ?_
      refine f_getI C dX11_has_132 fl_KilnBench_155 rfl (by decide) (by decide) ?_
      exact f_iret C R rfl dX11_has_135 h
    · have h := h.2.2.2.2.2.2.2.2.2.1 hx
      refine m_swIn (tgt := 136) (off := 135) C dX11_has_1 (by omega) (by omega) (by rw [hx]; rfl) (by decide) ?_
      refine m_aload_n C dX11_has_136 rfl ?_
      refine f_getO (t := 8) C dX11_has_137 fl_KilnBench_72 rfl (by decide) (by decide) (by decide) (by decide) ?_
      refine f_getI C dX11_has_140 fl_KilnBench_121 rfl (by decide) (by decide) ?_
      exact f_iret C R rfl dX11_has_143 h
    · have h := h.2.2.2.2.2.2.2.2.2.2.1 hx
      refine m_swIn (tgt := 144) (off := 143) C dX11_has_1 (by omega) (by omega) (by rw [hx]; rfl) (by decide) ?_
      refine m_aload_n C dX11_has_144 rfl ?_
      refine f_getO (t := 6) C dX11_has_145 fl_KilnBench_56 rfl (by decide) (by decide) (by decide) (by decide) ?_
      refine f_getI C dX11_has_148 fl_KilnBench_124 rfl (by decide) (by decide) ?_
      exact f_iret C R rfl dX11_has_151 h
    · have h := h.2.2.2.2.2.2.2.2.2.2.2.1 hx
      refine m_swIn (tgt := 152) (off := 151) C dX11_has_1 (by omega) (by omega) (by rw [hx]; rfl) (by decide) ?_
      refine m_aload_n C dX11_has_152 rfl ?_
      refine f_getI C dX11_has_153 fl_KilnBench_87 rfl (by decide) (by decide) ?_
      exact f_iret C R rfl dX11_has_156 h

set_option maxRecDepth 20000 in
theorem VX11_letter_0 {G : m_G} {X : m_X} {d : Nat} {K : Int → m_M → Prop} (C : mC G X YX11_letter (d + 1)) (R : r_i G X K) {μ : m_M} {a1 : Int} {a2 : Int} {a3 : Int}
    (h : ((a3 < 0) → K (-1) μ) ∧ ((¬ a3 < 0) → ((a3 < 6) → ((¬ a1 = 0) → mW G X YX11_letter μ 43 [some (vR 1 0), some (vI a1), some (vI a2), some (vI a3)] []) ∧ ((a1 = 0) → c_i G d YX11_isChild [vR 1 0, vI a2] μ (fun r2 μ1 => ((r2 = 0) → mW G X YX11_letter μ1 43 [some (vR 1 0), some (vI a1), some (vI a2), some (vI a3)] []) ∧ ((¬ r2 = 0) → ∃ t3 : Nat, μ1 1 0 2 = 100 * (t3 : Int) ∧ m_cls t3 = 9 ∧ (0 ≤ a2 ∧ a2 < 8) ∧ (0 ≤ a3 ∧ a3 < 6) ∧ ((m_lwL.getD a3.toNat 0).toInt) ≠ 0 ∧ K ((w32 ((μ1 t3 1 a2.toNat).tdiv ((m_lwL.getD a3.toNat 0).toInt))).tmod 27) μ1)))) ∧ ((¬ a3 < 6) → K (-1) μ))) :
    mW G X YX11_letter μ 0 [some (vR 1 0), some (vI a1), some (vI a2), some (vI a3)] [] := by
  refine m_iload_n C dX11_letter_0 rfl ?_
  refine m_if_lt (tgt := 10) C dX11_letter_1 (by decide) (fun c => ?_) (fun c => ?_)
  · have h := h.1 c
    refine m_iconst C dX11_letter_10 (by unfold in32; omega) ?_
    exact f_iret C R rfl dX11_letter_11 h
  · have h := h.2 c
    refine m_iload_n C dX11_letter_4 rfl ?_
    refine m_bipush C dX11_letter_5 (by omega) ?_
    refine m_icmp_lt (tgt := 12) C dX11_letter_7 (by decide) (fun c => ?_) (fun c => ?_)
    · have h := h.1 c
      refine m_iload_n C dX11_letter_12 rfl ?_
      refine m_if_ne (tgt := 43) C dX11_letter_13 (by decide) (fun c => ?_) (fun c => ?_)
      · have h := h.1 c
        exact h
      · have h := h.2 c
        refine m_aload_n C dX11_letter_16 rfl ?_
        refine m_iload_n C dX11_letter_17 rfl ?_
        refine f_callVi (As := [vI a2]) (st := []) C dX11_letter_18 ml_KilnBench_158 rfl (by decide) rfl rfl rfl (Nat.le_of_ble_eq_true rfl) h (fun r2 μ1 h => ?_)
        refine m_if_eq (tgt := 43) C dX11_letter_21 (by decide) (fun c => ?_) (fun c => ?_)
        · have h := h.1 c
          exact h
        · have h := h.2 c
          refine m_aload_n C dX11_letter_24 rfl ?_
          obtain ⟨t3, hx_t3, hc_t3, h⟩ := h
          refine f_getR (t := t3) (w := 0) C dX11_letter_25 fl_KilnBench_20 rfl (by decide) (by decide) (by rw [hx_t3]; omega) (by decide) (m_cls0 hc_t3 (by decide)) ?_
          refine f_getA C dX11_letter_28 fl_KilnBench_161 hc_t3 (by decide) (by decide) (by decide) (by decide) ?_
          refine m_iload_n C dX11_letter_31 rfl ?_
          obtain ⟨hb, h⟩ := h
          refine f_iald C dX11_letter_32 (m_arO (a := 0) (len := 8) hc_t3 rfl) (by decide) hb ?_
          refine m_getLW C dX11_letter_33 fs_KilnBench_164 ?_
          refine m_iload_n C dX11_letter_36 rfl ?_
          obtain ⟨hb, h⟩ := h
          refine m_ldLW C dX11_letter_37 hb.1 hb.2 ?_
          obtain ⟨hne, h⟩ := h
          refine m_idiv C dX11_letter_38 hne ?_
          refine m_bipush C dX11_letter_39 (by omega) ?_
          refine m_irem C dX11_letter_41 (by decide) ?_
          exact f_iret C R rfl dX11_letter_42 h
    · have h := h.2 c
      refine m_iconst C dX11_letter_10 (by unfold in32; omega) ?_
      exact f_iret C R rfl dX11_letter_11 h

set_option maxRecDepth 20000 in
theorem VX11_letter_43 {G : m_G} {X : m_X} {d : Nat} {K : Int → m_M → Prop} (C : mC G X YX11_letter (d + 1)) (R : r_i G X K) {μ : m_M} {a1 : Int} {a2 : Int} {a3 : Int}
    (h : ((¬ a1 = 1) → K (-1) μ) ∧ ((a1 = 1) → c_i G d YX11_isKiln [vR 1 0, vI a2] μ (fun r2 μ1 => ((r2 = 0) → K (-1) μ1) ∧ ((¬ r2 = 0) → ∃ t3 : Nat, μ1 1 0 2 = 100 * (t3 : Int) ∧ m_cls t3 = 9 ∧ (0 ≤ a2 ∧ a2 < 3) ∧ (0 ≤ a3 ∧ a3 < 6) ∧ ((m_lwL.getD a3.toNat 0).toInt) ≠ 0 ∧ K ((w32 ((μ1 t3 5 a2.toNat).tdiv ((m_lwL.getD a3.toNat 0).toInt))).tmod 27) μ1)))) :
    mW G X YX11_letter μ 43 [some (vR 1 0), some (vI a1), some (vI a2), some (vI a3)] [] := by
  refine m_iload_n C dX11_letter_43 rfl ?_
  refine m_iconst C dX11_letter_44 (by unfold in32; omega) ?_
  refine m_icmp_ne (tgt := 75) C dX11_letter_45 (by decide) (fun c => ?_) (fun c => ?_)
  · have h := h.1 c
    refine m_iconst C dX11_letter_75 (by unfold in32; omega) ?_
    exact f_iret C R rfl dX11_letter_76 h
  · have h := h.2 c
    refine m_aload_n C dX11_letter_48 rfl ?_
    refine m_iload_n C dX11_letter_49 rfl ?_
    refine f_callVi (As := [vI a2]) (st := []) C dX11_letter_50 ml_KilnBench_167 rfl (by decide) rfl rfl rfl (Nat.le_of_ble_eq_true rfl) h (fun r2 μ1 h => ?_)
    refine m_if_eq (tgt := 75) C dX11_letter_53 (by decide) (fun c => ?_) (fun c => ?_)
    · have h := h.1 c
      refine m_iconst C dX11_letter_75 (by unfold in32; omega) ?_
      exact f_iret C R rfl dX11_letter_76 h
    · have h := h.2 c
      refine m_aload_n C dX11_letter_56 rfl ?_
      obtain ⟨t3, hx_t3, hc_t3, h⟩ := h
      refine f_getR (t := t3) (w := 0) C dX11_letter_57 fl_KilnBench_20 rfl (by decide) (by decide) (by rw [hx_t3]; omega) (by decide) (m_cls0 hc_t3 (by decide)) ?_
      refine f_getA C dX11_letter_60 fl_KilnBench_170 hc_t3 (by decide) (by decide) (by decide) (by decide) ?_
      refine m_iload_n C dX11_letter_63 rfl ?_
      obtain ⟨hb, h⟩ := h
      refine f_iald C dX11_letter_64 (m_arO (a := 0) (len := 3) hc_t3 rfl) (by decide) hb ?_
      refine m_getLW C dX11_letter_65 fs_KilnBench_164 ?_
      refine m_iload_n C dX11_letter_68 rfl ?_
      obtain ⟨hb, h⟩ := h
      refine m_ldLW C dX11_letter_69 hb.1 hb.2 ?_
      obtain ⟨hne, h⟩ := h
      refine m_idiv C dX11_letter_70 hne ?_
      refine m_bipush C dX11_letter_71 (by omega) ?_
      refine m_irem C dX11_letter_73 (by decide) ?_
      exact f_iret C R rfl dX11_letter_74 h

set_option maxRecDepth 20000 in
theorem VX11_child_0 {G : m_G} {X : m_X} {d : Nat} {K : Int → m_M → Prop} (C : mC G X YX11_child (d + 1)) (R : r_i G X K) {μ : m_M} {a1 : Int} {a2 : Int}
    (h : c_i G d YX11_isChild [vR 1 0, vI a1] μ (fun r2 μ1 => ((¬ r2 = 0) → ((a2 = 0) → ∃ t3 : Nat, μ1 1 0 2 = 100 * (t3 : Int) ∧ m_cls t3 = 9 ∧ (0 ≤ a1 ∧ a1 < 8) ∧ K (μ1 t3 2 a1.toNat) μ1) ∧ ((a2 = 1) → ∃ t4 : Nat, μ1 1 0 2 = 100 * (t4 : Int) ∧ m_cls t4 = 9 ∧ (0 ≤ a1 ∧ a1 < 8) ∧ K (μ1 t4 3 a1.toNat) μ1) ∧ ((a2 = 2) → (0 ≤ a1 ∧ a1 < 8) ∧ K (μ1 10 3 a1.toNat) μ1) ∧ ((a2 = 3) → (0 ≤ a1 ∧ a1 < 8) ∧ K (μ1 10 4 a1.toNat) μ1) ∧ ((a2 = 4) → c_i G d YX0_isFired [vR 10 0, vI a1] μ1 (fun r6 μ5 => ((r6 = 0) → K 0 μ5) ∧ ((¬ r6 = 0) → K 1 μ5))) ∧ ((a2 = 5) → (0 ≤ a1 ∧ a1 < 8) ∧ K (μ1 10 5 a1.toNat) μ1) ∧ ((a2 = 6) → (0 ≤ a1 ∧ a1 < 8) ∧ K (μ1 10 6 a1.toNat) μ1) ∧ (((a2 < 0 ∨ 6 < a2)) → K (-1) μ1)) ∧ ((r2 = 0) → K (-1) μ1))) :
    mW G X YX11_child μ 0 [some (vR 1 0), some (vI a1), some (vI a2)] [] := by
  refine m_aload_n C dX11_child_0 rfl ?_
  refine m_iload_n C dX11_child_1 rfl ?_
  refine f_callVi (As := [vI a1]) (st := []) C dX11_child_2 ml_KilnBench_158 rfl (by decide) rfl rfl rfl (Nat.le_of_ble_eq_true rfl) h (fun r2 μ1 h => ?_)
  refine m_if_ne (tgt := 10) C dX11_child_5 (by decide) (fun c => ?_) (fun c => ?_)
  · have h := h.1 c
    refine m_iload_n C dX11_child_10 rfl ?_
    by_cases hx : a2 < 0 ∨ 6 < a2
    · have h := h.2.2.2.2.2.2.2 (by omega)
      refine m_swOut (tgt := 129) C dX11_child_11 hx (by decide) ?_
      refine m_iconst C dX11_child_129 (by unfold in32; omega) ?_
      exact f_iret C R rfl dX11_child_130 h
    · have hx : a2 = 0 ∨ a2 = 1 ∨ a2 = 2 ∨ a2 = 3 ∨ a2 = 4 ∨ a2 = 5 ∨ a2 = 6 := by omega
      rcases hx with hx | hx | hx | hx | hx | hx | hx
      · have h := h.1 hx
        refine m_swIn (tgt := 52) (off := 41) C dX11_child_11 (by omega) (by omega) (by rw [hx]; rfl) (by decide) ?_
        refine m_aload_n C dX11_child_52 rfl ?_
        obtain ⟨t3, hx_t3, hc_t3, h⟩ := h
        refine f_getR (t := t3) (w := 0) C dX11_child_53 fl_KilnBench_20 rfl (by decide) (by decide) (by rw [hx_t3]; omega) (by decide) (m_cls0 hc_t3 (by decide)) ?_
        refine f_getA C dX11_child_56 fl_KilnBench_173 hc_t3 (by decide) (by decide) (by decide) (by decide) ?_
        refine m_iload_n C dX11_child_59 rfl ?_
        obtain ⟨hb, h⟩ := h
        refine f_iald C dX11_child_60 (m_arO (a := 0) (len := 8) hc_t3 rfl) (by decide) hb ?_
        exact f_iret C R rfl dX11_child_61 h
      · have h := h.2.1 hx
        refine m_swIn (tgt := 62) (off := 51) C dX11_child_11 (by omega) (by omega) (by rw [hx]; rfl) (by decide) ?_
        refine m_aload_n C dX11_child_62 rfl ?_
        obtain ⟨t4, hx_t4, hc_t4, h⟩ := h
        refine f_getR (t := t4) (w := 0) C dX11_child_63 fl_KilnBench_20 rfl (by decide) (by decide) (by rw [hx_t4]; omega) (by decide) (m_cls0 hc_t4 (by decide)) ?_
        refine f_getA C dX11_child_66 fl_KilnBench_176 hc_t4 (by decide) (by decide) (by decide) (by decide) ?_
        refine m_iload_n C dX11_child_69 rfl ?_
        obtain ⟨hb, h⟩ := h
        refine f_iald C dX11_child_70 (m_arO (a := 0) (len := 8) hc_t4 rfl) (by decide) hb ?_
        exact f_iret C R rfl dX11_child_71 h
      · have h := h.2.2.1 hx
        refine m_swIn (tgt := 72) (off := 61) C dX11_child_11 (by omega) (by omega) (by rw [hx]; rfl) (by decide) ?_
        refine m_aload_n C dX11_child_72 rfl ?_
        refine f_getO (t := 10) C dX11_child_73 fl_KilnBench_46 rfl (by decide) (by decide) (by decide) (by decide) ?_
        refine f_getA C dX11_child_76 fl_KilnBench_179 rfl (by decide) (by decide) (by decide) (by decide) ?_
        refine m_iload_n C dX11_child_79 rfl ?_
        obtain ⟨hb, h⟩ := h
        refine f_iald C dX11_child_80 (m_arO (a := 0) (len := 8) rfl rfl) (by decide) hb ?_
        exact f_iret C R rfl dX11_child_81 h
      · have h := h.2.2.2.1 hx
        refine m_swIn (tgt := 82) (off := 71) C dX11_child_11 (by omega) (by omega) (by rw [hx]; rfl) (by decide) ?_
        refine m_aload_n C dX11_child_82 rfl ?_
        refine f_getO (t := 10) C dX11_child_83 fl_KilnBench_46 rfl (by decide) (by decide) (by decide) (by decide) ?_
        refine f_getA C dX11_child_86 fl_KilnBench_182 rfl (by decide) (by decide) (by decide) (by decide) ?_
        refine m_iload_n C dX11_child_89 rfl ?_
        obtain ⟨hb, h⟩ := h
        refine f_iald C dX11_child_90 (m_arO (a := 0) (len := 8) rfl rfl) (by decide) hb ?_
        exact f_iret C R rfl dX11_child_91 h
      · have h := h.2.2.2.2.1 hx
        refine m_swIn (tgt := 92) (off := 81) C dX11_child_11 (by omega) (by omega) (by rw [hx]; rfl) (by decide) ?_
        refine m_aload_n C dX11_child_92 rfl ?_
        refine f_getO (t := 10) C dX11_child_93 fl_KilnBench_46 rfl (by decide) (by decide) (by decide) (by decide) ?_
        refine m_iload_n C dX11_child_96 rfl ?_
        refine f_callVi (As := [vI a1]) (st := []) C dX11_child_97 ml_KilnBench_185 rfl (by decide) rfl rfl rfl (Nat.le_of_ble_eq_true rfl) h (fun r6 μ5 h => ?_)
        refine m_if_eq (tgt := 107) C dX11_child_100 (by decide) (fun c => ?_) (fun c => ?_)
        · have h := h.1 c
          refine m_iconst C dX11_child_107 (by unfold in32; omega) ?_
          exact f_iret C R rfl dX11_child_108 h
        · have h := h.2 c
          refine m_iconst C dX11_child_103 (by unfold in32; omega) ?_
          refine m_goto (tgt := 108) C dX11_child_104 (by decide) ?_
          exact f_iret C R rfl dX11_child_108 h
      · have h := h.2.2.2.2.2.1 hx
        refine m_swIn (tgt := 109) (off := 98) C dX11_child_11 (by omega) (by omega) (by rw [hx]; rfl) (by decide) ?_
        refine m_aload_n C dX11_child_109 rfl ?_
        refine f_getO (t := 10) C dX11_child_110 fl_KilnBench_46 rfl (by decide) (by decide) (by decide) (by decide) ?_
        refine f_getA C dX11_child_113 fl_KilnBench_188 rfl (by decide) (by decide) (by decide) (by decide) ?_
        refine m_iload_n C dX11_child_116 rfl ?_
        obtain ⟨hb, h⟩ := h
        refine f_iald C dX11_child_117 (m_arO (a := 0) (len := 8) rfl rfl) (by decide) hb ?_
        exact f_iret C R rfl dX11_child_118 h
      · have h := h.2.2.2.2.2.2.1 hx
        refine m_swIn (tgt := 119) (off := 108) C dX11_child_11 (by omega) (by omega) (by rw [hx]; rfl) (by decide) ?_
        refine m_aload_n C dX11_child_119 rfl ?_
        refine f_getO (t := 10) C dX11_child_120 fl_KilnBench_46 rfl (by decide) (by decide) (by decide) (by decide) ?_
        refine f_getA C dX11_child_123 fl_KilnBench_191 rfl (by decide) (by decide) (by decide) (by decide) ?_
        refine m_iload_n C dX11_child_126 rfl ?_
        obtain ⟨hb, h⟩ := h
        refine f_iald C dX11_child_127 (m_arO (a := 0) (len := 8) rfl rfl) (by decide) hb ?_
        exact f_iret C R rfl dX11_child_128 h
  · have h := h.2 c
    refine m_iconst C dX11_child_8 (by unfold in32; omega) ?_
    exact f_iret C R rfl dX11_child_9 h

set_option maxRecDepth 20000 in
theorem VX11_kiln_0 {G : m_G} {X : m_X} {d : Nat} {K : Int → m_M → Prop} (C : mC G X YX11_kiln (d + 1)) (R : r_i G X K) {μ : m_M} {a1 : Int} {a2 : Int}
    (h : c_i G d YX11_isKiln [vR 1 0, vI a1] μ (fun r2 μ1 => ((¬ r2 = 0) → ((a2 = 0) → ∃ t3 : Nat, μ1 1 0 2 = 100 * (t3 : Int) ∧ m_cls t3 = 9 ∧ (0 ≤ a1 ∧ a1 < 3) ∧ K (μ1 t3 6 a1.toNat) μ1) ∧ ((a2 = 1) → c_i G d YX0_countIn [vR 10 0, vI a1] μ1 (fun r5 μ4 => K r5 μ4)) ∧ ((a2 = 2) → (0 ≤ a1 ∧ a1 < 3) ∧ K (μ1 10 8 a1.toNat) μ1) ∧ ((a2 = 3) → (0 ≤ a1 ∧ a1 < 3) ∧ ((¬ (μ1 10 8 a1.toNat) = (-1)) → c_i G d YX4_burnt [vR 4 0, vR 10 0, vI a1] μ1 (fun r7 μ6 => K r7 μ6)) ∧ ((μ1 10 8 a1.toNat = (-1)) → K (-1) μ1)) ∧ (((a2 < 0 ∨ 3 < a2)) → K (-1) μ1)) ∧ ((r2 = 0) → K (-1) μ1))) :
    mW G X YX11_kiln μ 0 [some (vR 1 0), some (vI a1), some (vI a2)] [] := by
  refine m_aload_n C dX11_kiln_0 rfl ?_
  refine m_iload_n C dX11_kiln_1 rfl ?_
  refine f_callVi (As := [vI a1]) (st := []) C dX11_kiln_2 ml_KilnBench_167 rfl (by decide) rfl rfl rfl (Nat.le_of_ble_eq_true rfl) h (fun r2 μ1 h => ?_)
  refine m_if_ne (tgt := 10) C dX11_kiln_5 (by decide) (fun c => ?_) (fun c => ?_)
  · have h := h.1 c
    refine m_iload_n C dX11_kiln_10 rfl ?_
    by_cases hx : a2 < 0 ∨ 3 < a2
    · have h := h.2.2.2.2 (by omega)
      refine m_swOut (tgt := 99) C dX11_kiln_11 hx (by decide) ?_
      refine m_iconst C dX11_kiln_99 (by unfold in32; omega) ?_
      exact f_iret C R rfl dX11_kiln_100 h
    · have hx : a2 = 0 ∨ a2 = 1 ∨ a2 = 2 ∨ a2 = 3 := by omega
      rcases hx with hx | hx | hx | hx
      · have h := h.1 hx
        refine m_swIn (tgt := 40) (off := 29) C dX11_kiln_11 (by omega) (by omega) (by rw [hx]; rfl) (by decide) ?_
        refine m_aload_n C dX11_kiln_40 rfl ?_
        obtain ⟨t3, hx_t3, hc_t3, h⟩ := h
        refine f_getR (t := t3) (w := 0) C dX11_kiln_41 fl_KilnBench_20 rfl (by decide) (by decide) (by rw [hx_t3]; omega) (by decide) (m_cls0 hc_t3 (by decide)) ?_
        refine f_getA C dX11_kiln_44 fl_KilnBench_194 hc_t3 (by decide) (by decide) (by decide) (by decide) ?_
        refine m_iload_n C dX11_kiln_47 rfl ?_
        obtain ⟨hb, h⟩ := h
        refine f_iald C dX11_kiln_48 (m_arO (a := 0) (len := 3) hc_t3 rfl) (by decide) hb ?_
        exact f_iret C R rfl dX11_kiln_49 h
      · have h := h.2.1 hx
        refine m_swIn (tgt := 50) (off := 39) C dX11_kiln_11 (by omega) (by omega) (by rw [hx]; rfl) (by decide) ?_
        refine m_aload_n C dX11_kiln_50 rfl ?_
        refine f_getO (t := 10) C dX11_kiln_51 fl_KilnBench_46 rfl (by decide) (by decide) (by decide) (by decide) ?_
        refine m_iload_n C dX11_kiln_54 rfl ?_
        refine f_callVi (As := [vI a1]) (st := []) C dX11_kiln_55 ml_KilnBench_197 rfl (by decide) rfl rfl rfl (Nat.le_of_ble_eq_true rfl) h (fun r5 μ4 h => ?_)
        exact f_iret C R rfl dX11_kiln_58 h
      · have h := h.2.2.1 hx
        refine m_swIn (tgt := 59) (off := 48) C dX11_kiln_11 (by omega) (by omega) (by rw [hx]; rfl) (by decide) ?_
        refine m_aload_n C dX11_kiln_59 rfl ?_
        refine f_getO (t := 10) C dX11_kiln_60 fl_KilnBench_46 rfl (by decide) (by decide) (by decide) (by decide) ?_
        refine f_getA C dX11_kiln_63 fl_KilnBench_200 rfl (by decide) (by decide) (by decide) (by decide) ?_
        refine m_iload_n C dX11_kiln_66 rfl ?_
        obtain ⟨hb, h⟩ := h
        refine f_iald C dX11_kiln_67 (m_arO (a := 0) (len := 3) rfl rfl) (by decide) hb ?_
        exact f_iret C R rfl dX11_kiln_68 h
      · have h := h.2.2.2.1 hx
        refine m_swIn (tgt := 69) (off := 58) C dX11_kiln_11 (by omega) (by omega) (by rw [hx]; rfl) (by decide) ?_
        refine m_aload_n C dX11_kiln_69 rfl ?_
        refine f_getO (t := 10) C dX11_kiln_70 fl_KilnBench_46 rfl (by decide) (by decide) (by decide) (by decide) ?_
        refine f_getA C dX11_kiln_73 fl_KilnBench_200 rfl (by decide) (by decide) (by decide) (by decide) ?_
        refine m_iload_n C dX11_kiln_76 rfl ?_
        obtain ⟨hb, h⟩ := h
        refine f_iald C dX11_kiln_77 (m_arO (a := 0) (len := 3) rfl rfl) (by decide) hb ?_
        refine m_iconst C dX11_kiln_78 (by unfold in32; omega) ?_
        refine m_icmp_ne (tgt := 86) C dX11_kiln_79 (by decide) (fun c => ?_) (fun c => ?_)
        · have h := h.1 c
          refine m_aload_n C dX11_kiln_86 rfl ?_
          refine f_getO (t := 4) C dX11_kiln_87 fl_KilnBench_39 rfl (by decide) (by decide) (by decide) (by decide) ?_
          refine m_aload_n C dX11_kiln_90 rfl ?_
          refine f_getO (t := 10) C dX11_kiln_91 fl_KilnBench_46 rfl (by decide) (by decide) (by decide) (by decide) ?_
          refine m_iload_n C dX11_kiln_94 rfl ?_
          refine f_callVi (As := [vR 10 0, vI a1]) (st := []) C dX11_kiln_95 ml_KilnBench_203 rfl (by decide) rfl rfl rfl (Nat.le_of_ble_eq_true rfl) h (fun r7 μ6 h => ?_)
          exact f_iret C R rfl dX11_kiln_98 h
        · have h := h.2 c
          refine m_iconst C dX11_kiln_82 (by unfold in32; omega) ?_
          refine m_goto (tgt := 98) C dX11_kiln_83 (by decide) ?_
          exact f_iret C R rfl dX11_kiln_98 h
  · have h := h.2 c
    refine m_iconst C dX11_kiln_8 (by unfold in32; omega) ?_
    exact f_iret C R rfl dX11_kiln_9 h

set_option maxRecDepth 20000 in
theorem VX11_place_0 {G : m_G} {X : m_X} {d : Nat} {K : Int → m_M → Prop} (C : mC G X YX11_place (d + 1)) (R : r_i G X K) {μ : m_M} {a1 : Int} {a2 : Int}
    (h : c_i G d YX11_isPlaceOf [vR 1 0, vI a1, vI a2] μ (fun r2 μ1 => ((r2 = 0) → K (-1) μ1) ∧ ((¬ r2 = 0) → c_i G d YX0_whoIsIn [vR 10 0, vI a1, vI a2] μ1 (fun r4 μ3 => K r4 μ3)))) :
    mW G X YX11_place μ 0 [some (vR 1 0), some (vI a1), some (vI a2)] [] := by
  refine m_aload_n C dX11_place_0 rfl ?_
  refine m_iload_n C dX11_place_1 rfl ?_
  refine m_iload_n C dX11_place_2 rfl ?_
  refine f_callVi (As := [vI a1, vI a2]) (st := []) C dX11_place_3 ml_KilnBench_207 rfl (by decide) rfl rfl rfl (Nat.le_of_ble_eq_true rfl) h (fun r2 μ1 h => ?_)
  refine m_if_eq (tgt := 21) C dX11_place_6 (by decide) (fun c => ?_) (fun c => ?_)
  · have h := h.1 c
    refine m_iconst C dX11_place_21 (by unfold in32; omega) ?_
    exact f_iret C R rfl dX11_place_22 h
  · have h := h.2 c
    refine m_aload_n C dX11_place_9 rfl ?_
    refine f_getO (t := 10) C dX11_place_10 fl_KilnBench_46 rfl (by decide) (by decide) (by decide) (by decide) ?_
    refine m_iload_n C dX11_place_13 rfl ?_
    refine m_iload_n C dX11_place_14 rfl ?_
    refine f_callVi (As := [vI a1, vI a2]) (st := []) C dX11_place_15 ml_KilnBench_211 rfl (by decide) rfl rfl rfl (Nat.le_of_ble_eq_true rfl) h (fun r4 μ3 h => ?_)
    refine m_goto (tgt := 22) C dX11_place_18 (by decide) ?_
    exact f_iret C R rfl dX11_place_22 h

set_option maxRecDepth 20000 in
theorem VX11_rings_0 {G : m_G} {X : m_X} {d : Nat} {K : Int → m_M → Prop} (C : mC G X YX11_rings (d + 1)) (R : r_i G X K) {μ : m_M} {a1 : Int} {a2 : Int} {a3 : Int}
    (h : c_i G d YX11_isChild [vR 1 0, vI a1] μ (fun r2 μ1 => ((r2 = 0) → K (-1) μ1) ∧ ((¬ r2 = 0) → c_i G d YX11_isHeat [vI a2] μ1 (fun r4 μ3 => ((r4 = 0) → K (-1) μ3) ∧ ((¬ r4 = 0) → c_i G d YX11_isPlace [vI a3] μ3 (fun r6 μ5 => ((¬ r6 = 0) → c_i G d YX4_temperOf [vR 4 0, vI a1, vI a2, vI a3, vI (μ5 10 0 0)] μ5 (fun r8 μ7 => K r8 μ7)) ∧ ((r6 = 0) → K (-1) μ5))))))) :
    mW G X YX11_rings μ 0 [some (vR 1 0), some (vI a1), some (vI a2), some (vI a3)] [] := by
  refine m_aload_n C dX11_rings_0 rfl ?_
  refine m_iload_n C dX11_rings_1 rfl ?_
  refine f_callVi (As := [vI a1]) (st := []) C dX11_rings_2 ml_KilnBench_158 rfl (by decide) rfl rfl rfl (Nat.le_of_ble_eq_true rfl) h (fun r2 μ1 h => ?_)
  refine m_if_eq (tgt := 22) C dX11_rings_5 (by decide) (fun c => ?_) (fun c => ?_)
  · have h := h.1 c
    refine m_iconst C dX11_rings_22 (by unfold in32; omega) ?_
    exact f_iret C R rfl dX11_rings_23 h
  · have h := h.2 c
    refine m_iload_n C dX11_rings_8 rfl ?_
    refine f_callSi (As := [vI a2]) (st := []) C dX11_rings_9 ml_KilnBench_215 rfl rfl (Nat.le_of_ble_eq_true rfl) h (fun r4 μ3 h => ?_)
    refine m_if_eq (tgt := 22) C dX11_rings_12 (by decide) (fun c => ?_) (fun c => ?_)
    · have h := h.1 c
      refine m_iconst C dX11_rings_22 (by unfold in32; omega) ?_
      exact f_iret C R rfl dX11_rings_23 h
    · have h := h.2 c
      refine m_iload_n C dX11_rings_15 rfl ?_
      refine f_callSi (As := [vI a3]) (st := []) C dX11_rings_16 ml_KilnBench_218 rfl rfl (Nat.le_of_ble_eq_true rfl) h (fun r6 μ5 h => ?_)
      refine m_if_ne (tgt := 24) C dX11_rings_19 (by decide) (fun c => ?_) (fun c => ?_)
      · have h := h.1 c
        refine m_aload_n C dX11_rings_24 rfl ?_
        refine f_getO (t := 4) C dX11_rings_25 fl_KilnBench_39 rfl (by decide) (by decide) (by decide) (by decide) ?_
        refine m_iload_n C dX11_rings_28 rfl ?_
        refine m_iload_n C dX11_rings_29 rfl ?_
        refine m_iload_n C dX11_rings_30 rfl ?_
        refine m_aload_n C dX11_rings_31 rfl ?_
        refine f_getO (t := 10) C dX11_rings_32 fl_KilnBench_46 rfl (by decide) (by decide) (by decide) (by decide) ?_
        refine f_getI C dX11_rings_35 fl_KilnBench_137 rfl (by decide) (by decide) ?_
        refine f_callVi (As := [vI a1, vI a2, vI a3, vI (μ5 10 0 0)]) (st := []) C dX11_rings_38 ml_KilnBench_221 rfl (by decide) rfl rfl rfl (Nat.le_of_ble_eq_true rfl) h (fun r8 μ7 h => ?_)
        exact f_iret C R rfl dX11_rings_41 h
      · have h := h.2 c
        refine m_iconst C dX11_rings_22 (by unfold in32; omega) ?_
        exact f_iret C R rfl dX11_rings_23 h

set_option maxRecDepth 20000 in
theorem VX11_cracks_0 {G : m_G} {X : m_X} {d : Nat} {K : Int → m_M → Prop} (C : mC G X YX11_cracks (d + 1)) (R : r_i G X K) {μ : m_M} {a1 : Int} {a2 : Int} {a3 : Int}
    (h : c_i G d YX11_isChild [vR 1 0, vI a1] μ (fun r2 μ1 => ((r2 = 0) → K (-1) μ1) ∧ ((¬ r2 = 0) → c_i G d YX11_isHeat [vI a2] μ1 (fun r4 μ3 => ((r4 = 0) → K (-1) μ3) ∧ ((¬ r4 = 0) → c_i G d YX11_isPlace [vI a3] μ3 (fun r6 μ5 => ((¬ r6 = 0) → c_i G d YX4_temperOf [vR 4 0, vI a1, vI a2, vI a3, vI (μ5 10 0 0)] μ5 (fun r8 μ7 => c_i G d YX4_isCracked [vR 4 0, vI a1, vI a2, vI a3, vI (μ7 10 0 0), vI r8] μ7 (fun r11 μ10 => ((r11 = 0) → K 0 μ10) ∧ ((¬ r11 = 0) → K 1 μ10)))) ∧ ((r6 = 0) → K (-1) μ5))))))) :
    mW G X YX11_cracks μ 0 [some (vR 1 0), some (vI a1), some (vI a2), some (vI a3), none] [] := by
  refine m_aload_n C dX11_cracks_0 rfl ?_
  refine m_iload_n C dX11_cracks_1 rfl ?_
  refine f_callVi (As := [vI a1]) (st := []) C dX11_cracks_2 ml_KilnBench_158 rfl (by decide) rfl rfl rfl (Nat.le_of_ble_eq_true rfl) h (fun r2 μ1 h => ?_)
  refine m_if_eq (tgt := 22) C dX11_cracks_5 (by decide) (fun c => ?_) (fun c => ?_)
  · have h := h.1 c
    refine m_iconst C dX11_cracks_22 (by unfold in32; omega) ?_
    exact f_iret C R rfl dX11_cracks_23 h
  · have h := h.2 c
    refine m_iload_n C dX11_cracks_8 rfl ?_
    refine f_callSi (As := [vI a2]) (st := []) C dX11_cracks_9 ml_KilnBench_215 rfl rfl (Nat.le_of_ble_eq_true rfl) h (fun r4 μ3 h => ?_)
    refine m_if_eq (tgt := 22) C dX11_cracks_12 (by decide) (fun c => ?_) (fun c => ?_)
    · have h := h.1 c
      refine m_iconst C dX11_cracks_22 (by unfold in32; omega) ?_
      exact f_iret C R rfl dX11_cracks_23 h
    · have h := h.2 c
      refine m_iload_n C dX11_cracks_15 rfl ?_
      refine f_callSi (As := [vI a3]) (st := []) C dX11_cracks_16 ml_KilnBench_218 rfl rfl (Nat.le_of_ble_eq_true rfl) h (fun r6 μ5 h => ?_)
      refine m_if_ne (tgt := 24) C dX11_cracks_19 (by decide) (fun c => ?_) (fun c => ?_)
      · have h := h.1 c
        refine m_aload_n C dX11_cracks_24 rfl ?_
        refine f_getO (t := 4) C dX11_cracks_25 fl_KilnBench_39 rfl (by decide) (by decide) (by decide) (by decide) ?_
        refine m_iload_n C dX11_cracks_28 rfl ?_
        refine m_iload_n C dX11_cracks_29 rfl ?_
        refine m_iload_n C dX11_cracks_30 rfl ?_
        refine m_aload_n C dX11_cracks_31 rfl ?_
        refine f_getO (t := 10) C dX11_cracks_32 fl_KilnBench_46 rfl (by decide) (by decide) (by decide) (by decide) ?_
        refine f_getI C dX11_cracks_35 fl_KilnBench_137 rfl (by decide) (by decide) ?_
        refine f_callVi (As := [vI a1, vI a2, vI a3, vI (μ5 10 0 0)]) (st := []) C dX11_cracks_38 ml_KilnBench_221 rfl (by decide) rfl rfl rfl (Nat.le_of_ble_eq_true rfl) h (fun r8 μ7 h => ?_)
        refine o_istore [some (vR 1 0), some (vI a1), some (vI a2), some (vI a3), some (vI r8)] C dX11_cracks_41 (by decide) rfl ?_
        refine m_aload_n C dX11_cracks_43 rfl ?_
        refine f_getO (t := 4) C dX11_cracks_44 fl_KilnBench_39 rfl (by decide) (by decide) (by decide) (by decide) ?_
        refine m_iload_n C dX11_cracks_47 rfl ?_
        refine m_iload_n C dX11_cracks_48 rfl ?_
        refine m_iload_n C dX11_cracks_49 rfl ?_
        refine m_aload_n C dX11_cracks_50 rfl ?_
        refine f_getO (t := 10) C dX11_cracks_51 fl_KilnBench_46 rfl (by decide) (by decide) (by decide) (by decide) ?_
        refine f_getI C dX11_cracks_54 fl_KilnBench_137 rfl (by decide) (by decide) ?_
        refine m_iload C dX11_cracks_57 rfl ?_
        refine f_callVi (As := [vI a1, vI a2, vI a3, vI (μ7 10 0 0), vI r8]) (st := []) C dX11_cracks_59 ml_KilnBench_225 rfl (by decide) rfl rfl rfl (Nat.le_of_ble_eq_true rfl) h (fun r11 μ10 h => ?_)
        refine m_if_eq (tgt := 69) C dX11_cracks_62 (by decide) (fun c => ?_) (fun c => ?_)
        · have h := h.1 c
          refine m_iconst C dX11_cracks_69 (by unfold in32; omega) ?_
          exact f_iret C R rfl dX11_cracks_70 h
        · have h := h.2 c
          refine m_iconst C dX11_cracks_65 (by unfold in32; omega) ?_
          refine m_goto (tgt := 70) C dX11_cracks_66 (by decide) ?_
          exact f_iret C R rfl dX11_cracks_70 h
      · have h := h.2 c
        refine m_iconst C dX11_cracks_22 (by unfold in32; omega) ?_
        exact f_iret C R rfl dX11_cracks_23 h

set_option maxRecDepth 20000 in
theorem VX11_heats_0 {G : m_G} {X : m_X} {d : Nat} {K : Int → m_M → Prop} (C : mC G X YX11_heats (d + 1)) (R : r_i G X K) {μ : m_M} {a1 : Int} {a2 : Int} {a3 : Int} {a4 : Int}
    (h : c_i G d YX11_isChild [vR 1 0, vI a1] μ (fun r2 μ1 => ((r2 = 0) → K (-1) μ1) ∧ ((¬ r2 = 0) → c_i G d YX11_isPlace [vI a2] μ1 (fun r4 μ3 => ((¬ r4 = 0) → mW G X YX11_heats μ3 23 [some (vR 1 0), some (vI a1), some (vI a2), some (vI a3), some (vI a4), some (vI 0), some (vI 0), none, none] []) ∧ ((r4 = 0) → K (-1) μ3))))) :
    mW G X YX11_heats μ 0 [some (vR 1 0), some (vI a1), some (vI a2), some (vI a3), some (vI a4), none, none, none, none] [] := by
  refine m_aload_n C dX11_heats_0 rfl ?_
  refine m_iload_n C dX11_heats_1 rfl ?_
  refine f_callVi (As := [vI a1]) (st := []) C dX11_heats_2 ml_KilnBench_158 rfl (by decide) rfl rfl rfl (Nat.le_of_ble_eq_true rfl) h (fun r2 μ1 h => ?_)
  refine m_if_eq (tgt := 15) C dX11_heats_5 (by decide) (fun c => ?_) (fun c => ?_)
  · have h := h.1 c
    refine m_iconst C dX11_heats_15 (by unfold in32; omega) ?_
    exact f_iret C R rfl dX11_heats_16 h
  · have h := h.2 c
    refine m_iload_n C dX11_heats_8 rfl ?_
    refine f_callSi (As := [vI a2]) (st := []) C dX11_heats_9 ml_KilnBench_218 rfl rfl (Nat.le_of_ble_eq_true rfl) h (fun r4 μ3 h => ?_)
    refine m_if_ne (tgt := 17) C dX11_heats_12 (by decide) (fun c => ?_) (fun c => ?_)
    · have h := h.1 c
      refine m_iconst C dX11_heats_17 (by unfold in32; omega) ?_
      refine o_istore [some (vR 1 0), some (vI a1), some (vI a2), some (vI a3), some (vI a4), some (vI 0), none, none, none] C dX11_heats_18 (by decide) rfl ?_
      refine m_iconst C dX11_heats_20 (by unfold in32; omega) ?_
      refine o_istore [some (vR 1 0), some (vI a1), some (vI a2), some (vI a3), some (vI a4), some (vI 0), some (vI 0), none, none] C dX11_heats_21 (by decide) rfl ?_
      exact h
    · have h := h.2 c
      refine m_iconst C dX11_heats_15 (by unfold in32; omega) ?_
      exact f_iret C R rfl dX11_heats_16 h

set_option maxRecDepth 20000 in
theorem VX11_heats_23 {G : m_G} {X : m_X} {d : Nat} {K : Int → m_M → Prop} (C : mC G X YX11_heats (d + 1)) (R : r_i G X K) {μ : m_M} {a1 : Int} {a2 : Int} {a3 : Int} {a4 : Int} {l5 : Int} {l6 : Int}
    (h : ((20 < l6) → K l5 μ) ∧ ((¬ 20 < l6) → c_i G d YX4_temperOf [vR 4 0, vI a1, vI l6, vI a2, vI (μ 10 0 0)] μ (fun r2 μ1 => ((r2 < a3) → mW G X YX11_heats μ1 67 [some (vR 1 0), some (vI a1), some (vI a2), some (vI a3), some (vI a4), some (vI l5), some (vI l6), some (vI r2), none] []) ∧ ((¬ r2 < a3) → ((a4 < r2) → mW G X YX11_heats μ1 67 [some (vR 1 0), some (vI a1), some (vI a2), some (vI a3), some (vI a4), some (vI l5), some (vI l6), some (vI r2), none] []) ∧ ((¬ a4 < r2) → c_i G d YX4_isCracked [vR 4 0, vI a1, vI l6, vI a2, vI (μ1 10 0 0), vI r2] μ1 (fun r6 μ5 => ((¬ r6 = 0) → ∀ x7 : Int, x7 = w32 (l6 + 1) → mW G X YX11_heats μ5 23 [some (vR 1 0), some (vI a1), some (vI a2), some (vI a3), some (vI a4), some (vI l5), some (vI x7), none, none] []) ∧ ((r6 = 0) → ∀ x8 : Int, x8 = i_or l5 (i_shl 1 l6) → ∀ x9 : Int, x9 = w32 (l6 + 1) → mW G X YX11_heats μ5 23 [some (vR 1 0), some (vI a1), some (vI a2), some (vI a3), some (vI a4), some (vI x8), some (vI x9), none, none] []))))))) :
    mW G X YX11_heats μ 23 [some (vR 1 0), some (vI a1), some (vI a2), some (vI a3), some (vI a4), some (vI l5), some (vI l6), none, none] [] := by
  refine m_iload C dX11_heats_23 rfl ?_
  refine m_bipush C dX11_heats_25 (by omega) ?_
  refine m_icmp_gt (tgt := 113) C dX11_heats_27 (by decide) (fun c => ?_) (fun c => ?_)
  · have h := h.1 c
    refine m_iload C dX11_heats_113 rfl ?_
    exact f_iret C R rfl dX11_heats_115 h
  · have h := h.2 c
    refine m_aload_n C dX11_heats_30 rfl ?_
    refine f_getO (t := 4) C dX11_heats_31 fl_KilnBench_39 rfl (by decide) (by decide) (by decide) (by decide) ?_
    refine m_iload_n C dX11_heats_34 rfl ?_
    refine m_iload C dX11_heats_35 rfl ?_
    refine m_iload_n C dX11_heats_37 rfl ?_
    refine m_aload_n C dX11_heats_38 rfl ?_
    refine f_getO (t := 10) C dX11_heats_39 fl_KilnBench_46 rfl (by decide) (by decide) (by decide) (by decide) ?_
    refine f_getI C dX11_heats_42 fl_KilnBench_137 rfl (by decide) (by decide) ?_
    refine f_callVi (As := [vI a1, vI l6, vI a2, vI (μ 10 0 0)]) (st := []) C dX11_heats_45 ml_KilnBench_221 rfl (by decide) rfl rfl rfl (Nat.le_of_ble_eq_true rfl) h (fun r2 μ1 h => ?_)
    refine o_istore [some (vR 1 0), some (vI a1), some (vI a2), some (vI a3), some (vI a4), some (vI l5), some (vI l6), some (vI r2), none] C dX11_heats_48 (by decide) rfl ?_
    refine m_iload C dX11_heats_50 rfl ?_
    refine m_iload_n C dX11_heats_52 rfl ?_
    refine m_icmp_lt (tgt := 67) C dX11_heats_53 (by decide) (fun c => ?_) (fun c => ?_)
    · have h := h.1 c
      exact h
    · have h := h.2 c
      refine m_iload C dX11_heats_56 rfl ?_
      refine m_iload C dX11_heats_58 rfl ?_
      refine m_icmp_gt (tgt := 67) C dX11_heats_60 (by decide) (fun c => ?_) (fun c => ?_)
      · have h := h.1 c
        exact h
      · have h := h.2 c
        refine m_iconst C dX11_heats_63 (by unfold in32; omega) ?_
        refine m_goto (tgt := 68) C dX11_heats_64 (by decide) ?_
        refine o_istore [some (vR 1 0), some (vI a1), some (vI a2), some (vI a3), some (vI a4), some (vI l5), some (vI l6), some (vI r2), some (vI 1)] C dX11_heats_68 (by decide) rfl ?_
        refine m_iload C dX11_heats_70 rfl ?_
        refine m_if_eq (tgt := 107) C dX11_heats_72 (by decide) (fun c => absurd c (by decide)) (fun c => ?_)
        refine m_aload_n C dX11_heats_75 rfl ?_
        refine f_getO (t := 4) C dX11_heats_76 fl_KilnBench_39 rfl (by decide) (by decide) (by decide) (by decide) ?_
        refine m_iload_n C dX11_heats_79 rfl ?_
        refine m_iload C dX11_heats_80 rfl ?_
        refine m_iload_n C dX11_heats_82 rfl ?_
        refine m_aload_n C dX11_heats_83 rfl ?_
        refine f_getO (t := 10) C dX11_heats_84 fl_KilnBench_46 rfl (by decide) (by decide) (by decide) (by decide) ?_
        refine f_getI C dX11_heats_87 fl_KilnBench_137 rfl (by decide) (by decide) ?_
        refine m_iload C dX11_heats_90 rfl ?_
        refine f_callVi (As := [vI a1, vI l6, vI a2, vI (μ1 10 0 0), vI r2]) (st := []) C dX11_heats_92 ml_KilnBench_225 rfl (by decide) rfl rfl rfl (Nat.le_of_ble_eq_true rfl) h (fun r6 μ5 h => ?_)
        refine m_if_ne (tgt := 107) C dX11_heats_95 (by decide) (fun c => ?_) (fun c => ?_)
        · have h := h.1 c
          refine n_iinc (fun x7 => [some (vR 1 0), some (vI a1), some (vI a2), some (vI a3), some (vI a4), some (vI l5), some (vI x7), some (vI r2), some (vI 1)]) C dX11_heats_107 rfl (by decide) (fun _ => rfl) (fun x7 ex7 => ?_)
          have h := h x7 ex7
          refine m_goto (tgt := 23) C dX11_heats_110 (by decide) ?_
          exact n_weak (le_same (le_same (le_same (le_same (le_same (le_same (le_same (le_none (le_none le_nil))))))))) h
        · have h := h.2 c
          refine m_iload C dX11_heats_98 rfl ?_
          refine m_iconst C dX11_heats_100 (by unfold in32; omega) ?_
          refine m_iload C dX11_heats_101 rfl ?_
          refine m_ishl C dX11_heats_103 ?_
          refine m_ior C dX11_heats_104 ?_
          refine n_istore (fun x8 => [some (vR 1 0), some (vI a1), some (vI a2), some (vI a3), some (vI a4), some (vI x8), some (vI l6), some (vI r2), some (vI 1)]) C dX11_heats_105 (by decide) (fun _ => rfl) (fun x8 ex8 => ?_)
          have h := h x8 ex8
          refine n_iinc (fun x9 => [some (vR 1 0), some (vI a1), some (vI a2), some (vI a3), some (vI a4), some (vI x8), some (vI x9), some (vI r2), some (vI 1)]) C dX11_heats_107 rfl (by decide) (fun _ => rfl) (fun x9 ex9 => ?_)
          have h := h x9 ex9
          refine m_goto (tgt := 23) C dX11_heats_110 (by decide) ?_
          exact n_weak (le_same (le_same (le_same (le_same (le_same (le_same (le_same (le_none (le_none le_nil))))))))) h

set_option maxRecDepth 20000 in
theorem VX11_heats_67 {G : m_G} {X : m_X} {d : Nat} {K : Int → m_M → Prop} (C : mC G X YX11_heats (d + 1)) (R : r_i G X K) {μ : m_M} {a1 : Int} {a2 : Int} {a3 : Int} {a4 : Int} {l5 : Int} {l6 : Int} {l7 : Int}
    (h : ∀ x2 : Int, x2 = w32 (l6 + 1) → mW G X YX11_heats μ 23 [some (vR 1 0), some (vI a1), some (vI a2), some (vI a3), some (vI a4), some (vI l5), some (vI x2), none, none] []) :
    mW G X YX11_heats μ 67 [some (vR 1 0), some (vI a1), some (vI a2), some (vI a3), some (vI a4), some (vI l5), some (vI l6), some (vI l7), none] [] := by
  refine m_iconst C dX11_heats_67 (by unfold in32; omega) ?_
  refine o_istore [some (vR 1 0), some (vI a1), some (vI a2), some (vI a3), some (vI a4), some (vI l5), some (vI l6), some (vI l7), some (vI 0)] C dX11_heats_68 (by decide) rfl ?_
  refine m_iload C dX11_heats_70 rfl ?_
  refine m_if_eq (tgt := 107) C dX11_heats_72 (by decide) (fun c => ?_) (fun c => absurd c (by decide))
  refine n_iinc (fun x2 => [some (vR 1 0), some (vI a1), some (vI a2), some (vI a3), some (vI a4), some (vI l5), some (vI x2), some (vI l7), some (vI 0)]) C dX11_heats_107 rfl (by decide) (fun _ => rfl) (fun x2 ex2 => ?_)
  have h := h x2 ex2
  refine m_goto (tgt := 23) C dX11_heats_110 (by decide) ?_
  exact n_weak (le_same (le_same (le_same (le_same (le_same (le_same (le_same (le_none (le_none le_nil))))))))) h

set_option maxRecDepth 20000 in
theorem VX11_safe_0 {G : m_G} {X : m_X} {d : Nat} {K : Int → m_M → Prop} (C : mC G X YX11_safe (d + 1)) (R : r_i G X K) {μ : m_M} {a1 : Int}
    (h : c_i G d YX11_isKiln [vR 1 0, vI a1] μ (fun r2 μ1 => ((r2 = 0) → K (-1) μ1) ∧ ((¬ r2 = 0) → c_i G d YX0_countIn [vR 10 0, vI a1] μ1 (fun r4 μ3 => ((¬ r4 = 0) → mW G X YX11_safe μ3 24 [some (vR 1 0), some (vI a1), some (vI 20)] []) ∧ ((r4 = 0) → K (-1) μ3))))) :
    mW G X YX11_safe μ 0 [some (vR 1 0), some (vI a1), none] [] := by
  refine m_aload_n C dX11_safe_0 rfl ?_
  refine m_iload_n C dX11_safe_1 rfl ?_
  refine f_callVi (As := [vI a1]) (st := []) C dX11_safe_2 ml_KilnBench_167 rfl (by decide) rfl rfl rfl (Nat.le_of_ble_eq_true rfl) h (fun r2 μ1 h => ?_)
  refine m_if_eq (tgt := 19) C dX11_safe_5 (by decide) (fun c => ?_) (fun c => ?_)
  · have h := h.1 c
    refine m_iconst C dX11_safe_19 (by unfold in32; omega) ?_
    exact f_iret C R rfl dX11_safe_20 h
  · have h := h.2 c
    refine m_aload_n C dX11_safe_8 rfl ?_
    refine f_getO (t := 10) C dX11_safe_9 fl_KilnBench_46 rfl (by decide) (by decide) (by decide) (by decide) ?_
    refine m_iload_n C dX11_safe_12 rfl ?_
    refine f_callVi (As := [vI a1]) (st := []) C dX11_safe_13 ml_KilnBench_197 rfl (by decide) rfl rfl rfl (Nat.le_of_ble_eq_true rfl) h (fun r4 μ3 h => ?_)
    refine m_if_ne (tgt := 21) C dX11_safe_16 (by decide) (fun c => ?_) (fun c => ?_)
    · have h := h.1 c
      refine m_bipush C dX11_safe_21 (by omega) ?_
      refine o_istore_n [some (vR 1 0), some (vI a1), some (vI 20)] C dX11_safe_23 (by decide) rfl ?_
      exact h
    · have h := h.2 c
      refine m_iconst C dX11_safe_19 (by unfold in32; omega) ?_
      exact f_iret C R rfl dX11_safe_20 h

set_option maxRecDepth 20000 in
theorem VX11_safe_24 {G : m_G} {X : m_X} {d : Nat} {K : Int → m_M → Prop} (C : mC G X YX11_safe (d + 1)) (R : r_i G X K) {μ : m_M} {a1 : Int} {l2 : Int}
    (h : ((l2 < 0) → K (-1) μ) ∧ ((¬ l2 < 0) → c_i G d YX4_isSafe [vR 4 0, vR 10 0, vI a1, vI l2] μ (fun r2 μ1 => ((r2 = 0) → ∀ x3 : Int, x3 = w32 (l2 + (-1)) → mW G X YX11_safe μ1 24 [some (vR 1 0), some (vI a1), some (vI x3)] []) ∧ ((¬ r2 = 0) → K l2 μ1)))) :
    mW G X YX11_safe μ 24 [some (vR 1 0), some (vI a1), some (vI l2)] [] := by
  refine m_iload_n C dX11_safe_24 rfl ?_
  refine m_if_lt (tgt := 52) C dX11_safe_25 (by decide) (fun c => ?_) (fun c => ?_)
  · have h := h.1 c
    refine m_iconst C dX11_safe_52 (by unfold in32; omega) ?_
    exact f_iret C R rfl dX11_safe_53 h
  · have h := h.2 c
    refine m_aload_n C dX11_safe_28 rfl ?_
    refine f_getO (t := 4) C dX11_safe_29 fl_KilnBench_39 rfl (by decide) (by decide) (by decide) (by decide) ?_
    refine m_aload_n C dX11_safe_32 rfl ?_
    refine f_getO (t := 10) C dX11_safe_33 fl_KilnBench_46 rfl (by decide) (by decide) (by decide) (by decide) ?_
    refine m_iload_n C dX11_safe_36 rfl ?_
    refine m_iload_n C dX11_safe_37 rfl ?_
    refine f_callVi (As := [vR 10 0, vI a1, vI l2]) (st := []) C dX11_safe_38 ml_KilnBench_229 rfl (by decide) rfl rfl rfl (Nat.le_of_ble_eq_true rfl) h (fun r2 μ1 h => ?_)
    refine m_if_eq (tgt := 46) C dX11_safe_41 (by decide) (fun c => ?_) (fun c => ?_)
    · have h := h.1 c
      refine n_iinc (fun x3 => [some (vR 1 0), some (vI a1), some (vI x3)]) C dX11_safe_46 rfl (by decide) (fun _ => rfl) (fun x3 ex3 => ?_)
      have h := h x3 ex3
      refine m_goto (tgt := 24) C dX11_safe_49 (by decide) ?_
      exact h
    · have h := h.2 c
      refine m_iload_n C dX11_safe_44 rfl ?_
      exact f_iret C R rfl dX11_safe_45 h

set_option maxRecDepth 20000 in
theorem VX11_best_0 {G : m_G} {X : m_X} {d : Nat} {K : Int → m_M → Prop} (C : mC G X YX11_best (d + 1)) (R : r_i G X K) {μ : m_M} {a1 : Int} {a2 : Int}
    (h : c_i G d YX11_isKiln [vR 1 0, vI a1] μ (fun r2 μ1 => ((r2 = 0) → K (-1) μ1) ∧ ((¬ r2 = 0) → ((a2 < 0) → K (-1) μ1) ∧ ((¬ a2 < 0) → ∃ t3 : Nat, μ1 1 0 2 = 100 * (t3 : Int) ∧ m_cls t3 = 9 ∧ (0 ≤ a1 ∧ a1 < 3) ∧ ((a2 < w32 (2 + (μ1 t3 6 a1.toNat))) → c_v G d YX1_find [vR 7 0, vR 10 0, vI a1] μ1 (fun μ4 => ((¬ (μ4 7 0 0) = (-1)) → ((a2 = 0) → K (μ4 7 0 0) μ4) ∧ ((a2 = 1) → K (μ4 7 0 1) μ4) ∧ ((¬ a2 = 0 ∧ ¬ a2 = 1) → (0 ≤ w32 (a2 - 2) ∧ w32 (a2 - 2) < 6) ∧ K (μ4 7 3 (w32 (a2 - 2)).toNat) μ4)) ∧ ((μ4 7 0 0 = (-1)) → K (-1) μ4))) ∧ ((¬ a2 < w32 (2 + (μ1 t3 6 a1.toNat))) → K (-1) μ1))))) :
    mW G X YX11_best μ 0 [some (vR 1 0), some (vI a1), some (vI a2)] [] := by
  refine m_aload_n C dX11_best_0 rfl ?_
  refine m_iload_n C dX11_best_1 rfl ?_
  refine f_callVi (As := [vI a1]) (st := []) C dX11_best_2 ml_KilnBench_167 rfl (by decide) rfl rfl rfl (Nat.le_of_ble_eq_true rfl) h (fun r2 μ1 h => ?_)
  refine m_if_eq (tgt := 27) C dX11_best_5 (by decide) (fun c => ?_) (fun c => ?_)
  · have h := h.1 c
    refine m_iconst C dX11_best_27 (by unfold in32; omega) ?_
    exact f_iret C R rfl dX11_best_28 h
  · have h := h.2 c
    refine m_iload_n C dX11_best_8 rfl ?_
    refine m_if_lt (tgt := 27) C dX11_best_9 (by decide) (fun c => ?_) (fun c => ?_)
    · have h := h.1 c
      refine m_iconst C dX11_best_27 (by unfold in32; omega) ?_
      exact f_iret C R rfl dX11_best_28 h
    · have h := h.2 c
      refine m_iload_n C dX11_best_12 rfl ?_
      refine m_iconst C dX11_best_13 (by unfold in32; omega) ?_
      refine m_aload_n C dX11_best_14 rfl ?_
      obtain ⟨t3, hx_t3, hc_t3, h⟩ := h
      refine f_getR (t := t3) (w := 0) C dX11_best_15 fl_KilnBench_20 rfl (by decide) (by decide) (by rw [hx_t3]; omega) (by decide) (m_cls0 hc_t3 (by decide)) ?_
      refine f_getA C dX11_best_18 fl_KilnBench_194 hc_t3 (by decide) (by decide) (by decide) (by decide) ?_
      refine m_iload_n C dX11_best_21 rfl ?_
      obtain ⟨hb, h⟩ := h
      refine f_iald C dX11_best_22 (m_arO (a := 0) (len := 3) hc_t3 rfl) (by decide) hb ?_
      refine m_iadd C dX11_best_23 ?_
      refine m_icmp_lt (tgt := 29) C dX11_best_24 (by decide) (fun c => ?_) (fun c => ?_)
      · have h := h.1 c
        refine m_aload_n C dX11_best_29 rfl ?_
        refine f_getO (t := 7) C dX11_best_30 fl_KilnBench_65 rfl (by decide) (by decide) (by decide) (by decide) ?_
        refine m_aload_n C dX11_best_33 rfl ?_
        refine f_getO (t := 10) C dX11_best_34 fl_KilnBench_46 rfl (by decide) (by decide) (by decide) (by decide) ?_
        refine m_iload_n C dX11_best_37 rfl ?_
        refine f_callVv (As := [vR 10 0, vI a1]) (st := []) C dX11_best_38 ml_KilnBench_233 rfl (by decide) rfl rfl rfl (Nat.le_of_ble_eq_true rfl) h (fun μ4 h => ?_)
        refine m_aload_n C dX11_best_41 rfl ?_
        refine f_getO (t := 7) C dX11_best_42 fl_KilnBench_65 rfl (by decide) (by decide) (by decide) (by decide) ?_
        refine f_getI C dX11_best_45 fl_KilnBench_237 rfl (by decide) (by decide) ?_
        refine m_iconst C dX11_best_48 (by unfold in32; omega) ?_
        refine m_icmp_ne (tgt := 54) C dX11_best_49 (by decide) (fun c => ?_) (fun c => ?_)
        · have h := h.1 c
          refine m_iload_n C dX11_best_54 rfl ?_
          by_cases hx0 : a2 = 0
          · have h := h.1 hx0
            refine m_lsw (tgt := 80) (off := 25) C dX11_best_55 (by decide) (by rw [hx0]; decide) (by decide) ?_
            refine m_aload_n C dX11_best_80 rfl ?_
            refine f_getO (t := 7) C dX11_best_81 fl_KilnBench_65 rfl (by decide) (by decide) (by decide) (by decide) ?_
            refine f_getI C dX11_best_84 fl_KilnBench_237 rfl (by decide) (by decide) ?_
            exact f_iret C R rfl dX11_best_87 h
          by_cases hx1 : a2 = 1
          · have h := h.2.1 hx1
            refine m_lsw (tgt := 88) (off := 33) C dX11_best_55 (by decide) (by rw [hx1]; decide) (by decide) ?_
            refine m_aload_n C dX11_best_88 rfl ?_
            refine f_getO (t := 7) C dX11_best_89 fl_KilnBench_65 rfl (by decide) (by decide) (by decide) (by decide) ?_
            refine f_getI C dX11_best_92 fl_KilnBench_240 rfl (by decide) (by decide) ?_
            exact f_iret C R rfl dX11_best_95 h
          have h := h.2.2 ⟨hx0, hx1⟩
          refine m_lsw (tgt := 96) (off := 41) C dX11_best_55 (by decide) (by simp only [Op.lookupswitch.offset]; rw [if_neg (fun e => hx0 e.symm), if_neg (fun e => hx1 e.symm)]) (by decide) ?_
          refine m_aload_n C dX11_best_96 rfl ?_
          refine f_getO (t := 7) C dX11_best_97 fl_KilnBench_65 rfl (by decide) (by decide) (by decide) (by decide) ?_
          refine f_getA C dX11_best_100 fl_KilnBench_243 rfl (by decide) (by decide) (by decide) (by decide) ?_
          refine m_iload_n C dX11_best_103 rfl ?_
          refine m_iconst C dX11_best_104 (by unfold in32; omega) ?_
          refine m_isub C dX11_best_105 ?_
          obtain ⟨hb, h⟩ := h
          refine f_iald C dX11_best_106 (m_arO (a := 0) (len := 6) rfl rfl) (by decide) hb ?_
          exact f_iret C R rfl dX11_best_107 h
        · have h := h.2 c
          refine m_iconst C dX11_best_52 (by unfold in32; omega) ?_
          exact f_iret C R rfl dX11_best_53 h
      · have h := h.2 c
        refine m_iconst C dX11_best_27 (by unfold in32; omega) ?_
        exact f_iret C R rfl dX11_best_28 h

set_option maxRecDepth 20000 in
theorem VX11_brothers_0 {G : m_G} {X : m_X} {d : Nat} {K : Int → m_M → Prop} (C : mC G X YX11_brothers (d + 1)) (R : r_i G X K) {μ : m_M} {a1 : Int}
    (h : c_i G d YX11_isChild [vR 1 0, vI a1] μ (fun r2 μ1 => ((r2 = 0) → K (-1) μ1) ∧ ((¬ r2 = 0) → c_i G d YX0_brothersOf [vR 10 0, vI a1] μ1 (fun r4 μ3 => K r4 μ3)))) :
    mW G X YX11_brothers μ 0 [some (vR 1 0), some (vI a1)] [] := by
  refine m_aload_n C dX11_brothers_0 rfl ?_
  refine m_iload_n C dX11_brothers_1 rfl ?_
  refine f_callVi (As := [vI a1]) (st := []) C dX11_brothers_2 ml_KilnBench_158 rfl (by decide) rfl rfl rfl (Nat.le_of_ble_eq_true rfl) h (fun r2 μ1 h => ?_)
  refine m_if_eq (tgt := 19) C dX11_brothers_5 (by decide) (fun c => ?_) (fun c => ?_)
  · have h := h.1 c
    refine m_iconst C dX11_brothers_19 (by unfold in32; omega) ?_
    exact f_iret C R rfl dX11_brothers_20 h
  · have h := h.2 c
    refine m_aload_n C dX11_brothers_8 rfl ?_
    refine f_getO (t := 10) C dX11_brothers_9 fl_KilnBench_46 rfl (by decide) (by decide) (by decide) (by decide) ?_
    refine m_iload_n C dX11_brothers_12 rfl ?_
    refine f_callVi (As := [vI a1]) (st := []) C dX11_brothers_13 ml_KilnBench_246 rfl (by decide) rfl rfl rfl (Nat.le_of_ble_eq_true rfl) h (fun r4 μ3 h => ?_)
    refine m_goto (tgt := 20) C dX11_brothers_16 (by decide) ?_
    exact f_iret C R rfl dX11_brothers_20 h

set_option maxRecDepth 20000 in
theorem VX11_fired_0 {G : m_G} {X : m_X} {d : Nat} {K : Int → m_M → Prop} (C : mC G X YX11_fired (d + 1)) (R : r_i G X K) {μ : m_M} {a1 : Int}
    (h : c_i G d YX11_isKiln [vR 1 0, vI a1] μ (fun r2 μ1 => ((r2 = 0) → K (-1) μ1) ∧ ((¬ r2 = 0) → (0 ≤ a1 ∧ a1 < 3) ∧ ((¬ (μ1 10 8 a1.toNat) = (-1)) → c_v G d YX0_copyFrom [vR 11 0, vR 10 0] μ1 (fun μ3 => mW G X YX11_fired μ3 36 [some (vR 1 0), some (vI a1), some (vI 0)] [])) ∧ ((μ1 10 8 a1.toNat = (-1)) → K (-1) μ1)))) :
    mW G X YX11_fired μ 0 [some (vR 1 0), some (vI a1), none] [] := by
  refine m_aload_n C dX11_fired_0 rfl ?_
  refine m_iload_n C dX11_fired_1 rfl ?_
  refine f_callVi (As := [vI a1]) (st := []) C dX11_fired_2 ml_KilnBench_167 rfl (by decide) rfl rfl rfl (Nat.le_of_ble_eq_true rfl) h (fun r2 μ1 h => ?_)
  refine m_if_eq (tgt := 21) C dX11_fired_5 (by decide) (fun c => ?_) (fun c => ?_)
  · have h := h.1 c
    refine m_iconst C dX11_fired_21 (by unfold in32; omega) ?_
    exact f_iret C R rfl dX11_fired_22 h
  · have h := h.2 c
    refine m_aload_n C dX11_fired_8 rfl ?_
    refine f_getO (t := 10) C dX11_fired_9 fl_KilnBench_46 rfl (by decide) (by decide) (by decide) (by decide) ?_
    refine f_getA C dX11_fired_12 fl_KilnBench_200 rfl (by decide) (by decide) (by decide) (by decide) ?_
    refine m_iload_n C dX11_fired_15 rfl ?_
    obtain ⟨hb, h⟩ := h
    refine f_iald C dX11_fired_16 (m_arO (a := 0) (len := 3) rfl rfl) (by decide) hb ?_
    refine m_iconst C dX11_fired_17 (by unfold in32; omega) ?_
    refine m_icmp_ne (tgt := 23) C dX11_fired_18 (by decide) (fun c => ?_) (fun c => ?_)
    · have h := h.1 c
      refine m_aload_n C dX11_fired_23 rfl ?_
      refine f_getO (t := 11) C dX11_fired_24 fl_KilnBench_50 rfl (by decide) (by decide) (by decide) (by decide) ?_
      refine m_aload_n C dX11_fired_27 rfl ?_
      refine f_getO (t := 10) C dX11_fired_28 fl_KilnBench_46 rfl (by decide) (by decide) (by decide) (by decide) ?_
      refine f_callVv (As := [vR 10 0]) (st := []) C dX11_fired_31 ml_KilnBench_249 rfl (by decide) rfl rfl rfl (Nat.le_of_ble_eq_true rfl) h (fun μ3 h => ?_)
      refine m_iconst C dX11_fired_34 (by unfold in32; omega) ?_
      refine o_istore_n [some (vR 1 0), some (vI a1), some (vI 0)] C dX11_fired_35 (by decide) rfl ?_
      exact h
    · have h := h.2 c
      refine m_iconst C dX11_fired_21 (by unfold in32; omega) ?_
      exact f_iret C R rfl dX11_fired_22 h

set_option maxRecDepth 20000 in
theorem VX11_fired_36 {G : m_G} {X : m_X} {d : Nat} {K : Int → m_M → Prop} (C : mC G X YX11_fired (d + 1)) (R : r_i G X K) {μ : m_M} {a1 : Int} {l2 : Int}
    (h : ((40 ≤ l2) → K (-1) μ) ∧ ((¬ 40 ≤ l2) → ((999 ≤ μ 11 0 0) → K (-1) μ) ∧ ((¬ 999 ≤ μ 11 0 0) → c_i G d YX4_passWeek [vR 4 0, vR 11 0, vI 0] μ (fun r2 μ1 => (0 ≤ a1 ∧ a1 < 3) ∧ ((¬ (μ1 11 8 a1.toNat) = (-1)) → ∀ x3 : Int, x3 = w32 (l2 + 1) → mW G X YX11_fired μ1 36 [some (vR 1 0), some (vI a1), some (vI x3)] []) ∧ ((μ1 11 8 a1.toNat = (-1)) → K l2 μ1))))) :
    mW G X YX11_fired μ 36 [some (vR 1 0), some (vI a1), some (vI l2)] [] := by
  refine m_iload_n C dX11_fired_36 rfl ?_
  refine m_bipush C dX11_fired_37 (by omega) ?_
  refine m_icmp_ge (tgt := 89) C dX11_fired_39 (by decide) (fun c => ?_) (fun c => ?_)
  · have h := h.1 c
    refine m_iconst C dX11_fired_89 (by unfold in32; omega) ?_
    exact f_iret C R rfl dX11_fired_90 h
  · have h := h.2 c
    refine m_aload_n C dX11_fired_42 rfl ?_
    refine f_getO (t := 11) C dX11_fired_43 fl_KilnBench_50 rfl (by decide) (by decide) (by decide) (by decide) ?_
    refine f_getI C dX11_fired_46 fl_KilnBench_137 rfl (by decide) (by decide) ?_
    refine m_sipush C dX11_fired_49 (by omega) ?_
    refine m_icmp_ge (tgt := 89) C dX11_fired_52 (by decide) (fun c => ?_) (fun c => ?_)
    · have h := h.1 c
      refine m_iconst C dX11_fired_89 (by unfold in32; omega) ?_
      exact f_iret C R rfl dX11_fired_90 h
    · have h := h.2 c
      refine m_aload_n C dX11_fired_55 rfl ?_
      refine f_getO (t := 4) C dX11_fired_56 fl_KilnBench_39 rfl (by decide) (by decide) (by decide) (by decide) ?_
      refine m_aload_n C dX11_fired_59 rfl ?_
      refine f_getO (t := 11) C dX11_fired_60 fl_KilnBench_50 rfl (by decide) (by decide) (by decide) (by decide) ?_
      refine m_iconst C dX11_fired_63 (by unfold in32; omega) ?_
      refine f_callVi (As := [vR 11 0, vI 0]) (st := []) C dX11_fired_64 ml_KilnBench_253 rfl (by decide) rfl rfl rfl (Nat.le_of_ble_eq_true rfl) h (fun r2 μ1 h => ?_)
      refine m_pop C dX11_fired_67 rfl ?_
      refine m_aload_n C dX11_fired_68 rfl ?_
      refine f_getO (t := 11) C dX11_fired_69 fl_KilnBench_50 rfl (by decide) (by decide) (by decide) (by decide) ?_
      refine f_getA C dX11_fired_72 fl_KilnBench_200 rfl (by decide) (by decide) (by decide) (by decide) ?_
      refine m_iload_n C dX11_fired_75 rfl ?_
      obtain ⟨hb, h⟩ := h
      refine f_iald C dX11_fired_76 (m_arO (a := 0) (len := 3) rfl rfl) (by decide) hb ?_
      refine m_iconst C dX11_fired_77 (by unfold in32; omega) ?_
      refine m_icmp_ne (tgt := 83) C dX11_fired_78 (by decide) (fun c => ?_) (fun c => ?_)
      · have h := h.1 c
        refine n_iinc (fun x3 => [some (vR 1 0), some (vI a1), some (vI x3)]) C dX11_fired_83 rfl (by decide) (fun _ => rfl) (fun x3 ex3 => ?_)
        have h := h x3 ex3
        refine m_goto (tgt := 36) C dX11_fired_86 (by decide) ?_
        exact h
      · have h := h.2 c
        refine m_iload_n C dX11_fired_81 rfl ?_
        exact f_iret C R rfl dX11_fired_82 h

set_option maxRecDepth 20000 in
theorem VX11_fuel_0 {G : m_G} {X : m_X} {d : Nat} {K : Int → m_M → Prop} (C : mC G X YX11_fuel (d + 1)) (R : r_i G X K) {μ : m_M} {a1 : Int}
    (h : c_i G d YX11_lookAhead [vR 1 0, vI a1] μ (fun r2 μ1 => ((r2 = 0) → K (-1) μ1) ∧ ((¬ r2 = 0) → K (μ1 11 0 1) μ1))) :
    mW G X YX11_fuel μ 0 [some (vR 1 0), some (vI a1)] [] := by
  refine m_aload_n C dX11_fuel_0 rfl ?_
  refine m_iload_n C dX11_fuel_1 rfl ?_
  refine f_callVi (As := [vI a1]) (st := []) C dX11_fuel_2 ml_KilnBench_256 rfl (by decide) rfl rfl rfl (Nat.le_of_ble_eq_true rfl) h (fun r2 μ1 h => ?_)
  refine m_if_eq (tgt := 18) C dX11_fuel_5 (by decide) (fun c => ?_) (fun c => ?_)
  · have h := h.1 c
    refine m_iconst C dX11_fuel_18 (by unfold in32; omega) ?_
    exact f_iret C R rfl dX11_fuel_19 h
  · have h := h.2 c
    refine m_aload_n C dX11_fuel_8 rfl ?_
    refine f_getO (t := 11) C dX11_fuel_9 fl_KilnBench_50 rfl (by decide) (by decide) (by decide) (by decide) ?_
    refine f_getI C dX11_fuel_12 fl_KilnBench_140 rfl (by decide) (by decide) ?_
    refine m_goto (tgt := 19) C dX11_fuel_15 (by decide) ?_
    exact f_iret C R rfl dX11_fuel_19 h

set_option maxRecDepth 20000 in
theorem VX11_later_0 {G : m_G} {X : m_X} {d : Nat} {K : Int → m_M → Prop} (C : mC G X YX11_later (d + 1)) (R : r_i G X K) {μ : m_M} {a1 : Int} {a2 : Int}
    (h : c_i G d YX11_isChild [vR 1 0, vI a1] μ (fun r2 μ1 => ((r2 = 0) → K (-1) μ1) ∧ ((¬ r2 = 0) → c_i G d YX11_lookAhead [vR 1 0, vI a2] μ1 (fun r4 μ3 => ((r4 = 0) → K (-1) μ3) ∧ ((¬ r4 = 0) → (0 ≤ a1 ∧ a1 < 8) ∧ K (μ3 11 5 a1.toNat) μ3))))) :
    mW G X YX11_later μ 0 [some (vR 1 0), some (vI a1), some (vI a2)] [] := by
  refine m_aload_n C dX11_later_0 rfl ?_
  refine m_iload_n C dX11_later_1 rfl ?_
  refine f_callVi (As := [vI a1]) (st := []) C dX11_later_2 ml_KilnBench_158 rfl (by decide) rfl rfl rfl (Nat.le_of_ble_eq_true rfl) h (fun r2 μ1 h => ?_)
  refine m_if_eq (tgt := 28) C dX11_later_5 (by decide) (fun c => ?_) (fun c => ?_)
  · have h := h.1 c
    refine m_iconst C dX11_later_28 (by unfold in32; omega) ?_
    exact f_iret C R rfl dX11_later_29 h
  · have h := h.2 c
    refine m_aload_n C dX11_later_8 rfl ?_
    refine m_iload_n C dX11_later_9 rfl ?_
    refine f_callVi (As := [vI a2]) (st := []) C dX11_later_10 ml_KilnBench_256 rfl (by decide) rfl rfl rfl (Nat.le_of_ble_eq_true rfl) h (fun r4 μ3 h => ?_)
    refine m_if_eq (tgt := 28) C dX11_later_13 (by decide) (fun c => ?_) (fun c => ?_)
    · have h := h.1 c
      refine m_iconst C dX11_later_28 (by unfold in32; omega) ?_
      exact f_iret C R rfl dX11_later_29 h
    · have h := h.2 c
      refine m_aload_n C dX11_later_16 rfl ?_
      refine f_getO (t := 11) C dX11_later_17 fl_KilnBench_50 rfl (by decide) (by decide) (by decide) (by decide) ?_
      refine f_getA C dX11_later_20 fl_KilnBench_188 rfl (by decide) (by decide) (by decide) (by decide) ?_
      refine m_iload_n C dX11_later_23 rfl ?_
      obtain ⟨hb, h⟩ := h
      refine f_iald C dX11_later_24 (m_arO (a := 0) (len := 8) rfl rfl) (by decide) hb ?_
      refine m_goto (tgt := 29) C dX11_later_25 (by decide) ?_
      exact f_iret C R rfl dX11_later_29 h

set_option maxRecDepth 20000 in
theorem VX11_odds_0 {G : m_G} {X : m_X} {d : Nat} {K : Int → m_M → Prop} (C : mC G X YX11_odds (d + 1)) (R : r_i G X K) {μ : m_M} {a1 : Int}
    (h : c_i G d YX11_isChild [vR 1 0, vI a1] μ (fun r2 μ1 => ((r2 = 0) → K (-1) μ1) ∧ ((¬ r2 = 0) → ((μ1 10 0 0 < 999) → (0 ≤ a1 ∧ a1 < 8) ∧ ∀ x3 : Int, x3 = μ1 10 3 a1.toNat → c_i G d YX11_isKiln [vR 1 0, vI x3] μ1 (fun r5 μ4 => ((r5 = 0) → K (-1) μ4) ∧ ((¬ r5 = 0) → (0 ≤ x3 ∧ x3 < 3) ∧ ((¬ (μ4 10 8 x3.toNat) = (-1)) → c_i G d YX11_lookAhead [vR 1 0, vI 1] μ4 (fun r7 μ6 => c_i G d YX0_isFired [vR 11 0, vI a1] μ6 (fun r9 μ8 => ((r9 = 0) → K 0 μ8) ∧ ((¬ r9 = 0) → (0 ≤ x3 ∧ x3 < 3) ∧ c_i G d YX11_crackingRows [vR 1 0, vI a1, vI (μ8 10 8 x3.toNat)] μ8 (fun r11 μ10 => K r11 μ10))))) ∧ ((μ4 10 8 x3.toNat = (-1)) → K (-1) μ4)))) ∧ ((¬ μ1 10 0 0 < 999) → K (-1) μ1)))) :
    mW G X YX11_odds μ 0 [some (vR 1 0), some (vI a1), none] [] := by
  refine m_aload_n C dX11_odds_0 rfl ?_
  refine m_iload_n C dX11_odds_1 rfl ?_
  refine f_callVi (As := [vI a1]) (st := []) C dX11_odds_2 ml_KilnBench_158 rfl (by decide) rfl rfl rfl (Nat.le_of_ble_eq_true rfl) h (fun r2 μ1 h => ?_)
  refine m_if_eq (tgt := 21) C dX11_odds_5 (by decide) (fun c => ?_) (fun c => ?_)
  · have h := h.1 c
    refine m_iconst C dX11_odds_21 (by unfold in32; omega) ?_
    exact f_iret C R rfl dX11_odds_22 h
  · have h := h.2 c
    refine m_aload_n C dX11_odds_8 rfl ?_
    refine f_getO (t := 10) C dX11_odds_9 fl_KilnBench_46 rfl (by decide) (by decide) (by decide) (by decide) ?_
    refine f_getI C dX11_odds_12 fl_KilnBench_137 rfl (by decide) (by decide) ?_
    refine m_sipush C dX11_odds_15 (by omega) ?_
    refine m_icmp_lt (tgt := 23) C dX11_odds_18 (by decide) (fun c => ?_) (fun c => ?_)
    · have h := h.1 c
      refine m_aload_n C dX11_odds_23 rfl ?_
      refine f_getO (t := 10) C dX11_odds_24 fl_KilnBench_46 rfl (by decide) (by decide) (by decide) (by decide) ?_
      refine f_getA C dX11_odds_27 fl_KilnBench_179 rfl (by decide) (by decide) (by decide) (by decide) ?_
      refine m_iload_n C dX11_odds_30 rfl ?_
      obtain ⟨hb, h⟩ := h
      refine f_iald C dX11_odds_31 (m_arO (a := 0) (len := 8) rfl rfl) (by decide) hb ?_
      refine n_istore_n (fun x3 => [some (vR 1 0), some (vI a1), some (vI x3)]) C dX11_odds_32 (by decide) (fun _ => rfl) (fun x3 ex3 => ?_)
      have h := h x3 ex3
      refine m_aload_n C dX11_odds_33 rfl ?_
      refine m_iload_n C dX11_odds_34 rfl ?_
      refine f_callVi (As := [vI x3]) (st := []) C dX11_odds_35 ml_KilnBench_167 rfl (by decide) rfl rfl rfl (Nat.le_of_ble_eq_true rfl) h (fun r5 μ4 h => ?_)
      refine m_if_eq (tgt := 54) C dX11_odds_38 (by decide) (fun c => ?_) (fun c => ?_)
      · have h := h.1 c
        refine m_iconst C dX11_odds_54 (by unfold in32; omega) ?_
        exact f_iret C R rfl dX11_odds_55 h
      · have h := h.2 c
        refine m_aload_n C dX11_odds_41 rfl ?_
        refine f_getO (t := 10) C dX11_odds_42 fl_KilnBench_46 rfl (by decide) (by decide) (by decide) (by decide) ?_
        refine f_getA C dX11_odds_45 fl_KilnBench_200 rfl (by decide) (by decide) (by decide) (by decide) ?_
        refine m_iload_n C dX11_odds_48 rfl ?_
        obtain ⟨hb, h⟩ := h
        refine f_iald C dX11_odds_49 (m_arO (a := 0) (len := 3) rfl rfl) (by decide) hb ?_
        refine m_iconst C dX11_odds_50 (by unfold in32; omega) ?_
        refine m_icmp_ne (tgt := 56) C dX11_odds_51 (by decide) (fun c => ?_) (fun c => ?_)
        · have h := h.1 c
          refine m_aload_n C dX11_odds_56 rfl ?_
          refine m_iconst C dX11_odds_57 (by unfold in32; omega) ?_
          refine f_callVi (As := [vI 1]) (st := []) C dX11_odds_58 ml_KilnBench_256 rfl (by decide) rfl rfl rfl (Nat.le_of_ble_eq_true rfl) h (fun r7 μ6 h => ?_)
          refine m_pop C dX11_odds_61 rfl ?_
          refine m_aload_n C dX11_odds_62 rfl ?_
          refine f_getO (t := 11) C dX11_odds_63 fl_KilnBench_50 rfl (by decide) (by decide) (by decide) (by decide) ?_
          refine m_iload_n C dX11_odds_66 rfl ?_
          refine f_callVi (As := [vI a1]) (st := []) C dX11_odds_67 ml_KilnBench_185 rfl (by decide) rfl rfl rfl (Nat.le_of_ble_eq_true rfl) h (fun r9 μ8 h => ?_)
          refine m_if_eq (tgt := 90) C dX11_odds_70 (by decide) (fun c => ?_) (fun c => ?_)
          · have h := h.1 c
            refine m_iconst C dX11_odds_90 (by unfold in32; omega) ?_
            exact f_iret C R rfl dX11_odds_91 h
          · have h := h.2 c
            refine m_aload_n C dX11_odds_73 rfl ?_
            refine m_iload_n C dX11_odds_74 rfl ?_
            refine m_aload_n C dX11_odds_75 rfl ?_
            refine f_getO (t := 10) C dX11_odds_76 fl_KilnBench_46 rfl (by decide) (by decide) (by decide) (by decide) ?_
            refine f_getA C dX11_odds_79 fl_KilnBench_200 rfl (by decide) (by decide) (by decide) (by decide) ?_
            refine m_iload_n C dX11_odds_82 rfl ?_
            obtain ⟨hb, h⟩ := h
            refine f_iald C dX11_odds_83 (m_arO (a := 0) (len := 3) rfl rfl) (by decide) hb ?_
            refine f_callVi (As := [vI a1, vI (μ8 10 8 x3.toNat)]) (st := []) C dX11_odds_84 ml_KilnBench_259 rfl (by decide) rfl rfl rfl (Nat.le_of_ble_eq_true rfl) h (fun r11 μ10 h => ?_)
            refine m_goto (tgt := 91) C dX11_odds_87 (by decide) ?_
            exact f_iret C R rfl dX11_odds_91 h
        · have h := h.2 c
          refine m_iconst C dX11_odds_54 (by unfold in32; omega) ?_
          exact f_iret C R rfl dX11_odds_55 h
    · have h := h.2 c
      refine m_iconst C dX11_odds_21 (by unfold in32; omega) ?_
      exact f_iret C R rfl dX11_odds_22 h

set_option maxRecDepth 20000 in
theorem VX11_see_0 {G : m_G} {X : m_X} {d : Nat} {K : Int → m_M → Prop} (C : mC G X YX11_see (d + 1)) (R : r_i G X K) {μ : m_M}
    (h : ∀ x1 : Int, x1 = μ 1 0 1 → ∀ μ2 : m_M, μ2 = m_up μ 1 0 1 0 → ∃ t3 : Nat, μ2 1 0 2 = 100 * (t3 : Int) ∧ m_cls t3 = 9 ∧ c_i G d YX8_read [vR 8 0, vR 1 1, vI x1, vI (μ2 t3 0 3)] μ2 (fun r5 μ4 => ((r5 = 0) → c_i G d YX11_refuseWithNone [vR 1 0, vI 5] μ4 (fun r7 μ6 => K r7 μ6)) ∧ ((¬ r5 = 0) → K (μ4 8 0 0) μ4))) :
    mW G X YX11_see μ 0 [some (vR 1 0), none] [] := by
  refine m_aload_n C dX11_see_0 rfl ?_
  refine f_getI C dX11_see_1 fl_KilnBench_13 rfl (by decide) (by decide) ?_
  refine n_istore_n (fun x1 => [some (vR 1 0), some (vI x1)]) C dX11_see_4 (by decide) (fun _ => rfl) (fun x1 ex1 => ?_)
  have h := h x1 ex1
  refine m_aload_n C dX11_see_5 rfl ?_
  refine m_iconst C dX11_see_6 (by unfold in32; omega) ?_
  refine f_putI C dX11_see_7 fl_KilnBench_13 rfl (by decide) (by decide) (by decide) ?_
  refine n_mem (fun μ2 eμ2 => ?_)
  have h := h μ2 eμ2
  refine m_aload_n C dX11_see_10 rfl ?_
  refine f_getO (t := 8) C dX11_see_11 fl_KilnBench_72 rfl (by decide) (by decide) (by decide) (by decide) ?_
  refine m_aload_n C dX11_see_14 rfl ?_
  refine f_getA C dX11_see_15 fl_KilnBench_9 rfl (by decide) (by decide) (by decide) (by decide) ?_
  refine m_iload_n C dX11_see_18 rfl ?_
  refine m_aload_n C dX11_see_19 rfl ?_
  obtain ⟨t3, hx_t3, hc_t3, h⟩ := h
  refine f_getR (t := t3) (w := 0) C dX11_see_20 fl_KilnBench_20 rfl (by decide) (by decide) (by rw [hx_t3]; omega) (by decide) (m_cls0 hc_t3 (by decide)) ?_
  refine f_getI C dX11_see_23 fl_KilnBench_131 hc_t3 (by decide) (by decide) ?_
  refine f_callVi (As := [vR 1 1, vI x1, vI (μ2 t3 0 3)]) (st := []) C dX11_see_26 ml_KilnBench_262 rfl (by decide) rfl rfl rfl (Nat.le_of_ble_eq_true rfl) h (fun r5 μ4 h => ?_)
  refine m_if_eq (tgt := 42) C dX11_see_29 (by decide) (fun c => ?_) (fun c => ?_)
  · have h := h.1 c
    refine m_aload_n C dX11_see_42 rfl ?_
    refine m_iconst C dX11_see_43 (by unfold in32; omega) ?_
    refine f_callVi (As := [vI 5]) (st := []) C dX11_see_44 ml_KilnBench_99 rfl (by decide) rfl rfl rfl (Nat.le_of_ble_eq_true rfl) h (fun r7 μ6 h => ?_)
    exact f_iret C R rfl dX11_see_47 h
  · have h := h.2 c
    refine m_aload_n C dX11_see_32 rfl ?_
    refine f_getO (t := 8) C dX11_see_33 fl_KilnBench_72 rfl (by decide) (by decide) (by decide) (by decide) ?_
    refine f_getI C dX11_see_36 fl_KilnBench_121 rfl (by decide) (by decide) ?_
    refine m_goto (tgt := 47) C dX11_see_39 (by decide) ?_
    exact f_iret C R rfl dX11_see_47 h

set_option maxRecDepth 20000 in
theorem VX11_seen_0 {G : m_G} {X : m_X} {d : Nat} {K : Int → m_M → Prop} (C : mC G X YX11_seen (d + 1)) (R : r_i G X K) {μ : m_M}
    (h : c_i G d YX8_heatsLeft [vR 8 0, vR 4 0, vI (μ 10 0 0)] μ (fun r2 μ1 => K r2 μ1)) :
    mW G X YX11_seen μ 0 [some (vR 1 0)] [] := by
  refine m_aload_n C dX11_seen_0 rfl ?_
  refine f_getO (t := 8) C dX11_seen_1 fl_KilnBench_72 rfl (by decide) (by decide) (by decide) (by decide) ?_
  refine m_aload_n C dX11_seen_4 rfl ?_
  refine f_getO (t := 4) C dX11_seen_5 fl_KilnBench_39 rfl (by decide) (by decide) (by decide) (by decide) ?_
  refine m_aload_n C dX11_seen_8 rfl ?_
  refine f_getO (t := 10) C dX11_seen_9 fl_KilnBench_46 rfl (by decide) (by decide) (by decide) (by decide) ?_
  refine f_getI C dX11_seen_12 fl_KilnBench_137 rfl (by decide) (by decide) ?_
  refine f_callVi (As := [vR 4 0, vI (μ 10 0 0)]) (st := []) C dX11_seen_15 ml_KilnBench_266 rfl (by decide) rfl rfl rfl (Nat.le_of_ble_eq_true rfl) h (fun r2 μ1 h => ?_)
  exact f_iret C R rfl dX11_seen_18 h

set_option maxRecDepth 20000 in
theorem VX11_tells_0 {G : m_G} {X : m_X} {d : Nat} {K : Int → m_M → Prop} (C : mC G X YX11_tells (d + 1)) (R : r_i G X K) {μ : m_M} {a1 : Int}
    (h : ((a1 < 0) → K (-1) μ) ∧ ((¬ a1 < 0) → ((2 < a1) → K (-1) μ) ∧ ((¬ 2 < a1) → c_i G d YX8_findTelling [vR 8 0, vR 4 0, vI (μ 10 0 0)] μ (fun r2 μ1 => ((¬ r2 = 0) → ((a1 = 0) → K (μ1 8 0 1) μ1) ∧ ((a1 = 1) → K (μ1 8 0 2) μ1) ∧ ((¬ a1 = 0 ∧ ¬ a1 = 1) → K (μ1 8 0 3) μ1)) ∧ ((r2 = 0) → K (-1) μ1))))) :
    mW G X YX11_tells μ 0 [some (vR 1 0), some (vI a1)] [] := by
  refine m_iload_n C dX11_tells_0 rfl ?_
  refine m_if_lt (tgt := 30) C dX11_tells_1 (by decide) (fun c => ?_) (fun c => ?_)
  · have h := h.1 c
    refine m_iconst C dX11_tells_30 (by unfold in32; omega) ?_
    exact f_iret C R rfl dX11_tells_31 h
  · have h := h.2 c
    refine m_iload_n C dX11_tells_4 rfl ?_
    refine m_iconst C dX11_tells_5 (by unfold in32; omega) ?_
    refine m_icmp_gt (tgt := 30) C dX11_tells_6 (by decide) (fun c => ?_) (fun c => ?_)
    · have h := h.1 c
      refine m_iconst C dX11_tells_30 (by unfold in32; omega) ?_
      exact f_iret C R rfl dX11_tells_31 h
    · have h := h.2 c
      refine m_aload_n C dX11_tells_9 rfl ?_
      refine f_getO (t := 8) C dX11_tells_10 fl_KilnBench_72 rfl (by decide) (by decide) (by decide) (by decide) ?_
      refine m_aload_n C dX11_tells_13 rfl ?_
      refine f_getO (t := 4) C dX11_tells_14 fl_KilnBench_39 rfl (by decide) (by decide) (by decide) (by decide) ?_
      refine m_aload_n C dX11_tells_17 rfl ?_
      refine f_getO (t := 10) C dX11_tells_18 fl_KilnBench_46 rfl (by decide) (by decide) (by decide) (by decide) ?_
      refine f_getI C dX11_tells_21 fl_KilnBench_137 rfl (by decide) (by decide) ?_
      refine f_callVi (As := [vR 4 0, vI (μ 10 0 0)]) (st := []) C dX11_tells_24 ml_KilnBench_270 rfl (by decide) rfl rfl rfl (Nat.le_of_ble_eq_true rfl) h (fun r2 μ1 h => ?_)
      refine m_if_ne (tgt := 32) C dX11_tells_27 (by decide) (fun c => ?_) (fun c => ?_)
      · have h := h.1 c
        refine m_iload_n C dX11_tells_32 rfl ?_
        by_cases hx0 : a1 = 0
        · have h := h.1 hx0
          refine m_lsw (tgt := 60) (off := 27) C dX11_tells_33 (by decide) (by rw [hx0]; decide) (by decide) ?_
          refine m_aload_n C dX11_tells_60 rfl ?_
          refine f_getO (t := 8) C dX11_tells_61 fl_KilnBench_72 rfl (by decide) (by decide) (by decide) (by decide) ?_
          refine f_getI C dX11_tells_64 fl_KilnBench_274 rfl (by decide) (by decide) ?_
          exact f_iret C R rfl dX11_tells_67 h
        by_cases hx1 : a1 = 1
        · have h := h.2.1 hx1
          refine m_lsw (tgt := 68) (off := 35) C dX11_tells_33 (by decide) (by rw [hx1]; decide) (by decide) ?_
          refine m_aload_n C dX11_tells_68 rfl ?_
          refine f_getO (t := 8) C dX11_tells_69 fl_KilnBench_72 rfl (by decide) (by decide) (by decide) (by decide) ?_
          refine f_getI C dX11_tells_72 fl_KilnBench_277 rfl (by decide) (by decide) ?_
          exact f_iret C R rfl dX11_tells_75 h
        have h := h.2.2 ⟨hx0, hx1⟩
        refine m_lsw (tgt := 76) (off := 43) C dX11_tells_33 (by decide) (by simp only [Op.lookupswitch.offset]; rw [if_neg (fun e => hx0 e.symm), if_neg (fun e => hx1 e.symm)]) (by decide) ?_
        refine m_aload_n C dX11_tells_76 rfl ?_
        refine f_getO (t := 8) C dX11_tells_77 fl_KilnBench_72 rfl (by decide) (by decide) (by decide) (by decide) ?_
        refine f_getI C dX11_tells_80 fl_KilnBench_280 rfl (by decide) (by decide) ?_
        exact f_iret C R rfl dX11_tells_83 h
      · have h := h.2 c
        refine m_iconst C dX11_tells_30 (by unfold in32; omega) ?_
        exact f_iret C R rfl dX11_tells_31 h

set_option maxRecDepth 20000 in
theorem VX11_weeks_0 {G : m_G} {X : m_X} {d : Nat} {K : Int → m_M → Prop} (C : mC G X YX11_weeks (d + 1)) (R : r_i G X K) {μ : m_M} {a1 : Int}
    (h : c_i G d YX11_canPass [vR 1 0, vI a1] μ (fun r2 μ1 => ((¬ r2 = 0) → c_v G d YX11_beginAct [vR 1 0] μ1 (fun μ3 => mW G X YX11_weeks μ3 22 [some (vR 1 0), some (vI a1), some (vI 0), some (vI 0)] [])) ∧ ((r2 = 0) → c_i G d YX11_refuseWithNone [vR 1 0, vI 2] μ1 (fun r7 μ6 => K r7 μ6)))) :
    mW G X YX11_weeks μ 0 [some (vR 1 0), some (vI a1), none, none] [] := by
  refine m_aload_n C dX11_weeks_0 rfl ?_
  refine m_iload_n C dX11_weeks_1 rfl ?_
  refine f_callVi (As := [vI a1]) (st := []) C dX11_weeks_2 ml_KilnBench_283 rfl (by decide) rfl rfl rfl (Nat.le_of_ble_eq_true rfl) h (fun r2 μ1 h => ?_)
  refine m_if_ne (tgt := 14) C dX11_weeks_5 (by decide) (fun c => ?_) (fun c => ?_)
  · have h := h.1 c
    refine m_aload_n C dX11_weeks_14 rfl ?_
    refine f_callVv (As := []) (st := []) C dX11_weeks_15 ml_KilnBench_286 rfl (by decide) rfl rfl rfl (Nat.le_of_ble_eq_true rfl) h (fun μ3 h => ?_)
    refine m_iconst C dX11_weeks_18 (by unfold in32; omega) ?_
    refine o_istore_n [some (vR 1 0), some (vI a1), some (vI 0), none] C dX11_weeks_19 (by decide) rfl ?_
    refine m_iconst C dX11_weeks_20 (by unfold in32; omega) ?_
    refine o_istore_n [some (vR 1 0), some (vI a1), some (vI 0), some (vI 0)] C dX11_weeks_21 (by decide) rfl ?_
    exact h
  · have h := h.2 c
    refine m_aload_n C dX11_weeks_8 rfl ?_
    refine m_iconst C dX11_weeks_9 (by unfold in32; omega) ?_
    refine f_callVi (As := [vI 2]) (st := []) C dX11_weeks_10 ml_KilnBench_99 rfl (by decide) rfl rfl rfl (Nat.le_of_ble_eq_true rfl) h (fun r7 μ6 h => ?_)
    exact f_iret C R rfl dX11_weeks_13 h

set_option maxRecDepth 20000 in
theorem VX11_weeks_22 {G : m_G} {X : m_X} {d : Nat} {K : Int → m_M → Prop} (C : mC G X YX11_weeks (d + 1)) (R : r_i G X K) {μ : m_M} {a1 : Int} {l2 : Int} {l3 : Int}
    (h : ((a1 ≤ l3) → K l2 μ) ∧ ((¬ a1 ≤ l3) → c_i G d YX4_passWeek [vR 4 0, vR 10 0, vI 0] μ (fun r2 μ1 => ∀ x3 : Int, x3 = w32 (l2 + r2) → ∀ x4 : Int, x4 = w32 (l3 + 1) → mW G X YX11_weeks μ1 22 [some (vR 1 0), some (vI a1), some (vI x3), some (vI x4)] []))) :
    mW G X YX11_weeks μ 22 [some (vR 1 0), some (vI a1), some (vI l2), some (vI l3)] [] := by
  refine m_iload_n C dX11_weeks_22 rfl ?_
  refine m_iload_n C dX11_weeks_23 rfl ?_
  refine m_icmp_ge (tgt := 48) C dX11_weeks_24 (by decide) (fun c => ?_) (fun c => ?_)
  · have h := h.1 c
    refine m_iload_n C dX11_weeks_48 rfl ?_
    exact f_iret C R rfl dX11_weeks_49 h
  · have h := h.2 c
    refine m_iload_n C dX11_weeks_27 rfl ?_
    refine m_aload_n C dX11_weeks_28 rfl ?_
    refine f_getO (t := 4) C dX11_weeks_29 fl_KilnBench_39 rfl (by decide) (by decide) (by decide) (by decide) ?_
    refine m_aload_n C dX11_weeks_32 rfl ?_
    refine f_getO (t := 10) C dX11_weeks_33 fl_KilnBench_46 rfl (by decide) (by decide) (by decide) (by decide) ?_
    refine m_iconst C dX11_weeks_36 (by unfold in32; omega) ?_
    refine f_callVi (As := [vR 10 0, vI 0]) (st := [vI l2]) C dX11_weeks_37 ml_KilnBench_253 rfl (by decide) rfl rfl rfl (Nat.le_of_ble_eq_true rfl) h (fun r2 μ1 h => ?_)
    refine m_iadd C dX11_weeks_40 ?_
    refine n_istore_n (fun x3 => [some (vR 1 0), some (vI a1), some (vI x3), some (vI l3)]) C dX11_weeks_41 (by decide) (fun _ => rfl) (fun x3 ex3 => ?_)
    have h := h x3 ex3
    refine n_iinc (fun x4 => [some (vR 1 0), some (vI a1), some (vI x3), some (vI x4)]) C dX11_weeks_42 rfl (by decide) (fun _ => rfl) (fun x4 ex4 => ?_)
    have h := h x4 ex4
    refine m_goto (tgt := 22) C dX11_weeks_45 (by decide) ?_
    exact h

set_option maxRecDepth 20000 in
theorem VX11_chance_0 {G : m_G} {X : m_X} {d : Nat} {K : Int → m_M → Prop} (C : mC G X YX11_chance (d + 1)) (R : r_i G X K) {μ : m_M} {a1 : Int}
    (h : c_i G d YX11_canPass [vR 1 0, vI a1] μ (fun r2 μ1 => ((¬ r2 = 0) → c_v G d YX11_beginAct [vR 1 0] μ1 (fun μ3 => mW G X YX11_chance μ3 22 [some (vR 1 0), some (vI a1), some (vI 0), some (vI 0), none] [])) ∧ ((r2 = 0) → c_i G d YX11_refuseWithNone [vR 1 0, vI 2] μ1 (fun r7 μ6 => K r7 μ6)))) :
    mW G X YX11_chance μ 0 [some (vR 1 0), some (vI a1), none, none, none] [] := by
  refine m_aload_n C dX11_chance_0 rfl ?_
  refine m_iload_n C dX11_chance_1 rfl ?_
  refine f_callVi (As := [vI a1]) (st := []) C dX11_chance_2 ml_KilnBench_283 rfl (by decide) rfl rfl rfl (Nat.le_of_ble_eq_true rfl) h (fun r2 μ1 h => ?_)
  refine m_if_ne (tgt := 14) C dX11_chance_5 (by decide) (fun c => ?_) (fun c => ?_)
  · have h := h.1 c
    refine m_aload_n C dX11_chance_14 rfl ?_
    refine f_callVv (As := []) (st := []) C dX11_chance_15 ml_KilnBench_286 rfl (by decide) rfl rfl rfl (Nat.le_of_ble_eq_true rfl) h (fun μ3 h => ?_)
    refine m_iconst C dX11_chance_18 (by unfold in32; omega) ?_
    refine o_istore_n [some (vR 1 0), some (vI a1), some (vI 0), none, none] C dX11_chance_19 (by decide) rfl ?_
    refine m_iconst C dX11_chance_20 (by unfold in32; omega) ?_
    refine o_istore_n [some (vR 1 0), some (vI a1), some (vI 0), some (vI 0), none] C dX11_chance_21 (by decide) rfl ?_
    exact h
  · have h := h.2 c
    refine m_aload_n C dX11_chance_8 rfl ?_
    refine m_iconst C dX11_chance_9 (by unfold in32; omega) ?_
    refine f_callVi (As := [vI 2]) (st := []) C dX11_chance_10 ml_KilnBench_99 rfl (by decide) rfl rfl rfl (Nat.le_of_ble_eq_true rfl) h (fun r7 μ6 h => ?_)
    exact f_iret C R rfl dX11_chance_13 h

set_option maxRecDepth 20000 in
theorem VX11_chance_22 {G : m_G} {X : m_X} {d : Nat} {K : Int → m_M → Prop} (C : mC G X YX11_chance (d + 1)) (R : r_i G X K) {μ : m_M} {a1 : Int} {l2 : Int} {l3 : Int}
    (h : ((a1 ≤ l3) → K l2 μ) ∧ ((¬ a1 ≤ l3) → c_i G d YX11_draw [vR 1 0, vI 100] μ (fun r2 μ1 => ∃ t3 : Nat, μ1 1 0 2 = 100 * (t3 : Int) ∧ m_cls t3 = 9 ∧ ((μ1 t3 0 9 ≤ r2) → c_i G d YX4_passWeek [vR 4 0, vR 10 0, vI 0] μ1 (fun r6 μ5 => ∀ x7 : Int, x7 = w32 (l3 + 1) → mW G X YX11_chance μ5 22 [some (vR 1 0), some (vI a1), some (vI l2), some (vI x7), none] [])) ∧ ((¬ μ1 t3 0 9 ≤ r2) → c_i G d YX11_draw [vR 1 0, vI 3] μ1 (fun r9 μ8 => ∀ x10 : Int, x10 = w32 (1 + r9) → ((x10 ≤ 0) → c_i G d YX4_passWeek [vR 4 0, vR 10 0, vI x10] μ8 (fun r12 μ11 => ∀ x13 : Int, x13 = w32 (l3 + 1) → mW G X YX11_chance μ11 22 [some (vR 1 0), some (vI a1), some (vI l2), some (vI x13), none] [])) ∧ ((¬ x10 ≤ 0) → ∀ x14 : Int, x14 = w32 (l2 + 1) → c_i G d YX4_passWeek [vR 4 0, vR 10 0, vI x10] μ8 (fun r16 μ15 => ∀ x17 : Int, x17 = w32 (l3 + 1) → mW G X YX11_chance μ15 22 [some (vR 1 0), some (vI a1), some (vI x14), some (vI x17), none] []))))))) :
    mW G X YX11_chance μ 22 [some (vR 1 0), some (vI a1), some (vI l2), some (vI l3), none] [] := by
  refine m_iload_n C dX11_chance_22 rfl ?_
  refine m_iload_n C dX11_chance_23 rfl ?_
  refine m_icmp_ge (tgt := 84) C dX11_chance_24 (by decide) (fun c => ?_) (fun c => ?_)
  · have h := h.1 c
    refine m_iload_n C dX11_chance_84 rfl ?_
    exact f_iret C R rfl dX11_chance_85 h
  · have h := h.2 c
    refine m_aload_n C dX11_chance_27 rfl ?_
    refine m_bipush C dX11_chance_28 (by omega) ?_
    refine f_callVi (As := [vI 100]) (st := []) C dX11_chance_30 ml_KilnBench_289 rfl (by decide) rfl rfl rfl (Nat.le_of_ble_eq_true rfl) h (fun r2 μ1 h => ?_)
    refine m_aload_n C dX11_chance_33 rfl ?_
    obtain ⟨t3, hx_t3, hc_t3, h⟩ := h
    refine f_getR (t := t3) (w := 0) C dX11_chance_34 fl_KilnBench_20 rfl (by decide) (by decide) (by rw [hx_t3]; omega) (by decide) (m_cls0 hc_t3 (by decide)) ?_
    refine f_getI C dX11_chance_37 fl_KilnBench_292 hc_t3 (by decide) (by decide) ?_
    refine m_icmp_ge (tgt := 53) C dX11_chance_40 (by decide) (fun c => ?_) (fun c => ?_)
    · have h := h.1 c
      refine m_iconst C dX11_chance_53 (by unfold in32; omega) ?_
      refine o_istore [some (vR 1 0), some (vI a1), some (vI l2), some (vI l3), some (vI 0)] C dX11_chance_54 (by decide) rfl ?_
      refine m_iload C dX11_chance_56 rfl ?_
      refine m_if_le (tgt := 64) C dX11_chance_58 (by decide) (fun c => ?_) (fun c => absurd c (by decide))
      refine m_aload_n C dX11_chance_64 rfl ?_
      refine f_getO (t := 4) C dX11_chance_65 fl_KilnBench_39 rfl (by decide) (by decide) (by decide) (by decide) ?_
      refine m_aload_n C dX11_chance_68 rfl ?_
      refine f_getO (t := 10) C dX11_chance_69 fl_KilnBench_46 rfl (by decide) (by decide) (by decide) (by decide) ?_
      refine m_iload C dX11_chance_72 rfl ?_
      refine f_callVi (As := [vR 10 0, vI 0]) (st := []) C dX11_chance_74 ml_KilnBench_253 rfl (by decide) rfl rfl rfl (Nat.le_of_ble_eq_true rfl) h (fun r6 μ5 h => ?_)
      refine m_pop C dX11_chance_77 rfl ?_
      refine n_iinc (fun x7 => [some (vR 1 0), some (vI a1), some (vI l2), some (vI x7), some (vI 0)]) C dX11_chance_78 rfl (by decide) (fun _ => rfl) (fun x7 ex7 => ?_)
      have h := h x7 ex7
      refine m_goto (tgt := 22) C dX11_chance_81 (by decide) ?_
      exact n_weak (le_same (le_same (le_same (le_same (le_none le_nil))))) h
    · have h := h.2 c
      refine m_iconst C dX11_chance_43 (by unfold in32; omega) ?_
      refine m_aload_n C dX11_chance_44 rfl ?_
      refine m_iconst C dX11_chance_45 (by unfold in32; omega) ?_
      refine f_callVi (As := [vI 3]) (st := [vI 1]) C dX11_chance_46 ml_KilnBench_289 rfl (by decide) rfl rfl rfl (Nat.le_of_ble_eq_true rfl) h (fun r9 μ8 h => ?_)
      refine m_iadd C dX11_chance_49 ?_
      refine m_goto (tgt := 54) C dX11_chance_50 (by decide) ?_
      refine n_istore (fun x10 => [some (vR 1 0), some (vI a1), some (vI l2), some (vI l3), some (vI x10)]) C dX11_chance_54 (by decide) (fun _ => rfl) (fun x10 ex10 => ?_)
      have h := h x10 ex10
      refine m_iload C dX11_chance_56 rfl ?_
      refine m_if_le (tgt := 64) C dX11_chance_58 (by decide) (fun c => ?_) (fun c => ?_)
      · have h := h.1 c
        refine m_aload_n C dX11_chance_64 rfl ?_
        refine f_getO (t := 4) C dX11_chance_65 fl_KilnBench_39 rfl (by decide) (by decide) (by decide) (by decide) ?_
        refine m_aload_n C dX11_chance_68 rfl ?_
        refine f_getO (t := 10) C dX11_chance_69 fl_KilnBench_46 rfl (by decide) (by decide) (by decide) (by decide) ?_
        refine m_iload C dX11_chance_72 rfl ?_
        refine f_callVi (As := [vR 10 0, vI x10]) (st := []) C dX11_chance_74 ml_KilnBench_253 rfl (by decide) rfl rfl rfl (Nat.le_of_ble_eq_true rfl) h (fun r12 μ11 h => ?_)
        refine m_pop C dX11_chance_77 rfl ?_
        refine n_iinc (fun x13 => [some (vR 1 0), some (vI a1), some (vI l2), some (vI x13), some (vI x10)]) C dX11_chance_78 rfl (by decide) (fun _ => rfl) (fun x13 ex13 => ?_)
        have h := h x13 ex13
        refine m_goto (tgt := 22) C dX11_chance_81 (by decide) ?_
        exact n_weak (le_same (le_same (le_same (le_same (le_none le_nil))))) h
      · have h := h.2 c
        refine n_iinc (fun x14 => [some (vR 1 0), some (vI a1), some (vI x14), some (vI l3), some (vI x10)]) C dX11_chance_61 rfl (by decide) (fun _ => rfl) (fun x14 ex14 => ?_)
        have h := h x14 ex14
        refine m_aload_n C dX11_chance_64 rfl ?_
        refine f_getO (t := 4) C dX11_chance_65 fl_KilnBench_39 rfl (by decide) (by decide) (by decide) (by decide) ?_
        refine m_aload_n C dX11_chance_68 rfl ?_
        refine f_getO (t := 10) C dX11_chance_69 fl_KilnBench_46 rfl (by decide) (by decide) (by decide) (by decide) ?_
        refine m_iload C dX11_chance_72 rfl ?_
        refine f_callVi (As := [vR 10 0, vI x10]) (st := []) C dX11_chance_74 ml_KilnBench_253 rfl (by decide) rfl rfl rfl (Nat.le_of_ble_eq_true rfl) h (fun r16 μ15 h => ?_)
        refine m_pop C dX11_chance_77 rfl ?_
        refine n_iinc (fun x17 => [some (vR 1 0), some (vI a1), some (vI x14), some (vI x17), some (vI x10)]) C dX11_chance_78 rfl (by decide) (fun _ => rfl) (fun x17 ex17 => ?_)
        have h := h x17 ex17
        refine m_goto (tgt := 22) C dX11_chance_81 (by decide) ?_
        exact n_weak (le_same (le_same (le_same (le_same (le_none le_nil))))) h

set_option maxRecDepth 20000 in
theorem VX11_set_0 {G : m_G} {X : m_X} {d : Nat} {K : Int → m_M → Prop} (C : mC G X YX11_set (d + 1)) (R : r_i G X K) {μ : m_M} {a1 : Int} {a2 : Int} {a3 : Int}
    (h : c_i G d YX11_isChild [vR 1 0, vI a1] μ (fun r2 μ1 => ((r2 = 0) → mW G X YX11_set μ1 45 [some (vR 1 0), some (vI a1), some (vI a2), some (vI a3), none] []) ∧ ((¬ r2 = 0) → c_i G d YX11_isPlaceOf [vR 1 0, vI a2, vI a3] μ1 (fun r4 μ3 => ((r4 = 0) → mW G X YX11_set μ3 45 [some (vR 1 0), some (vI a1), some (vI a2), some (vI a3), none] []) ∧ ((¬ r4 = 0) → c_i G d YX0_isFired [vR 10 0, vI a1] μ3 (fun r6 μ5 => ((¬ r6 = 0) → mW G X YX11_set μ5 45 [some (vR 1 0), some (vI a1), some (vI a2), some (vI a3), none] []) ∧ ((r6 = 0) → c_i G d YX0_whoIsIn [vR 10 0, vI a2, vI a3] μ5 (fun r8 μ7 => ((¬ r8 = (-1)) → mW G X YX11_set μ7 45 [some (vR 1 0), some (vI a1), some (vI a2), some (vI a3), none] []) ∧ ((r8 = (-1)) → c_v G d YX11_beginAct [vR 1 0] μ7 (fun μ10 => (0 ≤ a1 ∧ a1 < 8) ∧ ∀ μ11 : m_M, μ11 = m_up μ10 10 3 a1.toNat a2 → (0 ≤ a1 ∧ a1 < 8) ∧ ∀ μ12 : m_M, μ12 = m_up μ11 10 4 a1.toNat a3 → K 1 μ12)))))))))) :
    mW G X YX11_set μ 0 [some (vR 1 0), some (vI a1), some (vI a2), some (vI a3), none] [] := by
  refine m_aload_n C dX11_set_0 rfl ?_
  refine m_iload_n C dX11_set_1 rfl ?_
  refine f_callVi (As := [vI a1]) (st := []) C dX11_set_2 ml_KilnBench_158 rfl (by decide) rfl rfl rfl (Nat.le_of_ble_eq_true rfl) h (fun r2 μ1 h => ?_)
  refine m_if_eq (tgt := 45) C dX11_set_5 (by decide) (fun c => ?_) (fun c => ?_)
  · have h := h.1 c
    exact h
  · have h := h.2 c
    refine m_aload_n C dX11_set_8 rfl ?_
    refine m_iload_n C dX11_set_9 rfl ?_
    refine m_iload_n C dX11_set_10 rfl ?_
    refine f_callVi (As := [vI a2, vI a3]) (st := []) C dX11_set_11 ml_KilnBench_207 rfl (by decide) rfl rfl rfl (Nat.le_of_ble_eq_true rfl) h (fun r4 μ3 h => ?_)
    refine m_if_eq (tgt := 45) C dX11_set_14 (by decide) (fun c => ?_) (fun c => ?_)
    · have h := h.1 c
      exact h
    · have h := h.2 c
      refine m_aload_n C dX11_set_17 rfl ?_
      refine f_getO (t := 10) C dX11_set_18 fl_KilnBench_46 rfl (by decide) (by decide) (by decide) (by decide) ?_
      refine m_iload_n C dX11_set_21 rfl ?_
      refine f_callVi (As := [vI a1]) (st := []) C dX11_set_22 ml_KilnBench_185 rfl (by decide) rfl rfl rfl (Nat.le_of_ble_eq_true rfl) h (fun r6 μ5 h => ?_)
      refine m_if_ne (tgt := 45) C dX11_set_25 (by decide) (fun c => ?_) (fun c => ?_)
      · have h := h.1 c
        exact h
      · have h := h.2 c
        refine m_aload_n C dX11_set_28 rfl ?_
        refine f_getO (t := 10) C dX11_set_29 fl_KilnBench_46 rfl (by decide) (by decide) (by decide) (by decide) ?_
        refine m_iload_n C dX11_set_32 rfl ?_
        refine m_iload_n C dX11_set_33 rfl ?_
        refine f_callVi (As := [vI a2, vI a3]) (st := []) C dX11_set_34 ml_KilnBench_211 rfl (by decide) rfl rfl rfl (Nat.le_of_ble_eq_true rfl) h (fun r8 μ7 h => ?_)
        refine m_iconst C dX11_set_37 (by unfold in32; omega) ?_
        refine m_icmp_ne (tgt := 45) C dX11_set_38 (by decide) (fun c => ?_) (fun c => ?_)
        · have h := h.1 c
          exact h
        · have h := h.2 c
          refine m_iconst C dX11_set_41 (by unfold in32; omega) ?_
          refine m_goto (tgt := 46) C dX11_set_42 (by decide) ?_
          refine o_istore [some (vR 1 0), some (vI a1), some (vI a2), some (vI a3), some (vI 1)] C dX11_set_46 (by decide) rfl ?_
          refine m_iload C dX11_set_48 rfl ?_
          refine m_if_ne (tgt := 59) C dX11_set_50 (by decide) (fun c => ?_) (fun c => absurd c (by decide))
          refine m_aload_n C dX11_set_59 rfl ?_
          refine f_callVv (As := []) (st := []) C dX11_set_60 ml_KilnBench_286 rfl (by decide) rfl rfl rfl (Nat.le_of_ble_eq_true rfl) h (fun μ10 h => ?_)
          refine m_aload_n C dX11_set_63 rfl ?_
          refine f_getO (t := 10) C dX11_set_64 fl_KilnBench_46 rfl (by decide) (by decide) (by decide) (by decide) ?_
          refine f_getA C dX11_set_67 fl_KilnBench_179 rfl (by decide) (by decide) (by decide) (by decide) ?_
          refine m_iload_n C dX11_set_70 rfl ?_
          refine m_iload_n C dX11_set_71 rfl ?_
          obtain ⟨hb, h⟩ := h
          refine f_iast C dX11_set_72 (m_arO (a := 0) (len := 8) rfl rfl) (by decide) hb ?_
          refine n_mem (fun μ11 eμ11 => ?_)
          have h := h μ11 eμ11
          refine m_aload_n C dX11_set_73 rfl ?_
          refine f_getO (t := 10) C dX11_set_74 fl_KilnBench_46 rfl (by decide) (by decide) (by decide) (by decide) ?_
          refine f_getA C dX11_set_77 fl_KilnBench_182 rfl (by decide) (by decide) (by decide) (by decide) ?_
          refine m_iload_n C dX11_set_80 rfl ?_
          refine m_iload_n C dX11_set_81 rfl ?_
          obtain ⟨hb, h⟩ := h
          refine f_iast C dX11_set_82 (m_arO (a := 0) (len := 8) rfl rfl) (by decide) hb ?_
          refine n_mem (fun μ12 eμ12 => ?_)
          have h := h μ12 eμ12
          refine m_iconst C dX11_set_83 (by unfold in32; omega) ?_
          exact f_zret C R rfl dX11_set_84 (by decide) h

set_option maxRecDepth 20000 in
theorem VX11_set_45 {G : m_G} {X : m_X} {d : Nat} {K : Int → m_M → Prop} (C : mC G X YX11_set (d + 1)) (R : r_i G X K) {μ : m_M} {a1 : Int} {a2 : Int} {a3 : Int}
    (h : c_i G d YX11_refuseWithFalse [vR 1 0, vI 3] μ (fun r3 μ2 => (r3 = 0 ∨ r3 = 1) ∧ K r3 μ2)) :
    mW G X YX11_set μ 45 [some (vR 1 0), some (vI a1), some (vI a2), some (vI a3), none] [] := by
  refine m_iconst C dX11_set_45 (by unfold in32; omega) ?_
  refine o_istore [some (vR 1 0), some (vI a1), some (vI a2), some (vI a3), some (vI 0)] C dX11_set_46 (by decide) rfl ?_
  refine m_iload C dX11_set_48 rfl ?_
  refine m_if_ne (tgt := 59) C dX11_set_50 (by decide) (fun c => absurd c (by decide)) (fun c => ?_)
  refine m_aload_n C dX11_set_53 rfl ?_
  refine m_iconst C dX11_set_54 (by unfold in32; omega) ?_
  refine f_callVi (As := [vI 3]) (st := []) C dX11_set_55 ml_KilnBench_107 rfl (by decide) rfl rfl rfl (Nat.le_of_ble_eq_true rfl) h (fun r3 μ2 h => ?_)
  exact f_zret C R rfl dX11_set_58 h.1 h.2

set_option maxRecDepth 20000 in
theorem VX11_take_0 {G : m_G} {X : m_X} {d : Nat} {K : Int → m_M → Prop} (C : mC G X YX11_take (d + 1)) (R : r_i G X K) {μ : m_M} {a1 : Int}
    (h : c_i G d YX11_isChild [vR 1 0, vI a1] μ (fun r2 μ1 => ((r2 = 0) → c_i G d YX11_refuseWithFalse [vR 1 0, vI 3] μ1 (fun r4 μ3 => (r4 = 0 ∨ r4 = 1) ∧ K r4 μ3)) ∧ ((¬ r2 = 0) → (0 ≤ a1 ∧ a1 < 8) ∧ ((¬ (μ1 10 3 a1.toNat) = (-1)) → c_v G d YX11_beginAct [vR 1 0] μ1 (fun μ5 => c_v G d YX0_takeOut [vR 10 0, vI a1] μ5 (fun μ6 => K 1 μ6))) ∧ ((μ1 10 3 a1.toNat = (-1)) → c_i G d YX11_refuseWithFalse [vR 1 0, vI 3] μ1 (fun r8 μ7 => (r8 = 0 ∨ r8 = 1) ∧ K r8 μ7))))) :
    mW G X YX11_take μ 0 [some (vR 1 0), some (vI a1)] [] := by
  refine m_aload_n C dX11_take_0 rfl ?_
  refine m_iload_n C dX11_take_1 rfl ?_
  refine f_callVi (As := [vI a1]) (st := []) C dX11_take_2 ml_KilnBench_158 rfl (by decide) rfl rfl rfl (Nat.le_of_ble_eq_true rfl) h (fun r2 μ1 h => ?_)
  refine m_if_eq (tgt := 21) C dX11_take_5 (by decide) (fun c => ?_) (fun c => ?_)
  · have h := h.1 c
    refine m_aload_n C dX11_take_21 rfl ?_
    refine m_iconst C dX11_take_22 (by unfold in32; omega) ?_
    refine f_callVi (As := [vI 3]) (st := []) C dX11_take_23 ml_KilnBench_107 rfl (by decide) rfl rfl rfl (Nat.le_of_ble_eq_true rfl) h (fun r4 μ3 h => ?_)
    exact f_zret C R rfl dX11_take_26 h.1 h.2
  · have h := h.2 c
    refine m_aload_n C dX11_take_8 rfl ?_
    refine f_getO (t := 10) C dX11_take_9 fl_KilnBench_46 rfl (by decide) (by decide) (by decide) (by decide) ?_
    refine f_getA C dX11_take_12 fl_KilnBench_179 rfl (by decide) (by decide) (by decide) (by decide) ?_
    refine m_iload_n C dX11_take_15 rfl ?_
    obtain ⟨hb, h⟩ := h
    refine f_iald C dX11_take_16 (m_arO (a := 0) (len := 8) rfl rfl) (by decide) hb ?_
    refine m_iconst C dX11_take_17 (by unfold in32; omega) ?_
    refine m_icmp_ne (tgt := 27) C dX11_take_18 (by decide) (fun c => ?_) (fun c => ?_)
    · have h := h.1 c
      refine m_aload_n C dX11_take_27 rfl ?_
      refine f_callVv (As := []) (st := []) C dX11_take_28 ml_KilnBench_286 rfl (by decide) rfl rfl rfl (Nat.le_of_ble_eq_true rfl) h (fun μ5 h => ?_)
      refine m_aload_n C dX11_take_31 rfl ?_
      refine f_getO (t := 10) C dX11_take_32 fl_KilnBench_46 rfl (by decide) (by decide) (by decide) (by decide) ?_
      refine m_iload_n C dX11_take_35 rfl ?_
      refine f_callVv (As := [vI a1]) (st := []) C dX11_take_36 ml_KilnBench_295 rfl (by decide) rfl rfl rfl (Nat.le_of_ble_eq_true rfl) h (fun μ6 h => ?_)
      refine m_iconst C dX11_take_39 (by unfold in32; omega) ?_
      exact f_zret C R rfl dX11_take_40 (by decide) h
    · have h := h.2 c
      refine m_aload_n C dX11_take_21 rfl ?_
      refine m_iconst C dX11_take_22 (by unfold in32; omega) ?_
      refine f_callVi (As := [vI 3]) (st := []) C dX11_take_23 ml_KilnBench_107 rfl (by decide) rfl rfl rfl (Nat.le_of_ble_eq_true rfl) h (fun r8 μ7 h => ?_)
      exact f_zret C R rfl dX11_take_26 h.1 h.2

set_option maxRecDepth 20000 in
theorem VX11_light_0 {G : m_G} {X : m_X} {d : Nat} {K : Int → m_M → Prop} (C : mC G X YX11_light (d + 1)) (R : r_i G X K) {μ : m_M} {a1 : Int} {a2 : Int}
    (h : c_i G d YX11_isKiln [vR 1 0, vI a1] μ (fun r2 μ1 => ((r2 = 0) → mW G X YX11_light μ1 37 [some (vR 1 0), some (vI a1), some (vI a2), none] []) ∧ ((¬ r2 = 0) → c_i G d YX11_isHeat [vI a2] μ1 (fun r4 μ3 => ((¬ r4 = 0) → mW G X YX11_light μ3 20 [some (vR 1 0), some (vI a1), some (vI a2), none] []) ∧ ((r4 = 0) → ((¬ a2 = (-1)) → mW G X YX11_light μ3 37 [some (vR 1 0), some (vI a1), some (vI a2), none] []) ∧ ((a2 = (-1)) → mW G X YX11_light μ3 20 [some (vR 1 0), some (vI a1), some (vI a2), none] [])))))) :
    mW G X YX11_light μ 0 [some (vR 1 0), some (vI a1), some (vI a2), none] [] := by
  refine m_aload_n C dX11_light_0 rfl ?_
  refine m_iload_n C dX11_light_1 rfl ?_
  refine f_callVi (As := [vI a1]) (st := []) C dX11_light_2 ml_KilnBench_167 rfl (by decide) rfl rfl rfl (Nat.le_of_ble_eq_true rfl) h (fun r2 μ1 h => ?_)
  refine m_if_eq (tgt := 37) C dX11_light_5 (by decide) (fun c => ?_) (fun c => ?_)
  · have h := h.1 c
    exact h
  · have h := h.2 c
    refine m_iload_n C dX11_light_8 rfl ?_
    refine f_callSi (As := [vI a2]) (st := []) C dX11_light_9 ml_KilnBench_215 rfl rfl (Nat.le_of_ble_eq_true rfl) h (fun r4 μ3 h => ?_)
    refine m_if_ne (tgt := 20) C dX11_light_12 (by decide) (fun c => ?_) (fun c => ?_)
    · have h := h.1 c
      exact h
    · have h := h.2 c
      refine m_iload_n C dX11_light_15 rfl ?_
      refine m_iconst C dX11_light_16 (by unfold in32; omega) ?_
      refine m_icmp_ne (tgt := 37) C dX11_light_17 (by decide) (fun c => ?_) (fun c => ?_)
      · have h := h.1 c
        exact h
      · have h := h.2 c
        exact h

set_option maxRecDepth 20000 in
theorem VX11_light_20 {G : m_G} {X : m_X} {d : Nat} {K : Int → m_M → Prop} (C : mC G X YX11_light (d + 1)) (R : r_i G X K) {μ : m_M} {a1 : Int} {a2 : Int}
    (h : (0 ≤ a1 ∧ a1 < 3) ∧ ((μ 10 8 a1.toNat = a2) → mW G X YX11_light μ 37 [some (vR 1 0), some (vI a1), some (vI a2), none] []) ∧ ((¬ μ 10 8 a1.toNat = a2) → c_v G d YX11_beginAct [vR 1 0] μ (fun μ2 => (0 ≤ a1 ∧ a1 < 3) ∧ ∀ μ3 : m_M, μ3 = m_up μ2 10 8 a1.toNat a2 → K 1 μ3))) :
    mW G X YX11_light μ 20 [some (vR 1 0), some (vI a1), some (vI a2), none] [] := by
  refine m_aload_n C dX11_light_20 rfl ?_
  refine f_getO (t := 10) C dX11_light_21 fl_KilnBench_46 rfl (by decide) (by decide) (by decide) (by decide) ?_
  refine f_getA C dX11_light_24 fl_KilnBench_200 rfl (by decide) (by decide) (by decide) (by decide) ?_
  refine m_iload_n C dX11_light_27 rfl ?_
  obtain ⟨hb, h⟩ := h
  refine f_iald C dX11_light_28 (m_arO (a := 0) (len := 3) rfl rfl) (by decide) hb ?_
  refine m_iload_n C dX11_light_29 rfl ?_
  refine m_icmp_eq (tgt := 37) C dX11_light_30 (by decide) (fun c => ?_) (fun c => ?_)
  · have h := h.1 c
    exact h
  · have h := h.2 c
    refine m_iconst C dX11_light_33 (by unfold in32; omega) ?_
    refine m_goto (tgt := 38) C dX11_light_34 (by decide) ?_
    refine o_istore_n [some (vR 1 0), some (vI a1), some (vI a2), some (vI 1)] C dX11_light_38 (by decide) rfl ?_
    refine m_iload_n C dX11_light_39 rfl ?_
    refine m_if_ne (tgt := 49) C dX11_light_40 (by decide) (fun c => ?_) (fun c => absurd c (by decide))
    refine m_aload_n C dX11_light_49 rfl ?_
    refine f_callVv (As := []) (st := []) C dX11_light_50 ml_KilnBench_286 rfl (by decide) rfl rfl rfl (Nat.le_of_ble_eq_true rfl) h (fun μ2 h => ?_)
    refine m_aload_n C dX11_light_53 rfl ?_
    refine f_getO (t := 10) C dX11_light_54 fl_KilnBench_46 rfl (by decide) (by decide) (by decide) (by decide) ?_
    refine f_getA C dX11_light_57 fl_KilnBench_200 rfl (by decide) (by decide) (by decide) (by decide) ?_
    refine m_iload_n C dX11_light_60 rfl ?_
    refine m_iload_n C dX11_light_61 rfl ?_
    obtain ⟨hb, h⟩ := h
    refine f_iast C dX11_light_62 (m_arO (a := 0) (len := 3) rfl rfl) (by decide) hb ?_
    refine n_mem (fun μ3 eμ3 => ?_)
    have h := h μ3 eμ3
    refine m_iconst C dX11_light_63 (by unfold in32; omega) ?_
    exact f_zret C R rfl dX11_light_64 (by decide) h

set_option maxRecDepth 20000 in
theorem VX11_light_37 {G : m_G} {X : m_X} {d : Nat} {K : Int → m_M → Prop} (C : mC G X YX11_light (d + 1)) (R : r_i G X K) {μ : m_M} {a1 : Int} {a2 : Int}
    (h : c_i G d YX11_refuseWithFalse [vR 1 0, vI 3] μ (fun r3 μ2 => (r3 = 0 ∨ r3 = 1) ∧ K r3 μ2)) :
    mW G X YX11_light μ 37 [some (vR 1 0), some (vI a1), some (vI a2), none] [] := by
  refine m_iconst C dX11_light_37 (by unfold in32; omega) ?_
  refine o_istore_n [some (vR 1 0), some (vI a1), some (vI a2), some (vI 0)] C dX11_light_38 (by decide) rfl ?_
  refine m_iload_n C dX11_light_39 rfl ?_
  refine m_if_ne (tgt := 49) C dX11_light_40 (by decide) (fun c => absurd c (by decide)) (fun c => ?_)
  refine m_aload_n C dX11_light_43 rfl ?_
  refine m_iconst C dX11_light_44 (by unfold in32; omega) ?_
  refine f_callVi (As := [vI 3]) (st := []) C dX11_light_45 ml_KilnBench_107 rfl (by decide) rfl rfl rfl (Nat.le_of_ble_eq_true rfl) h (fun r3 μ2 h => ?_)
  exact f_zret C R rfl dX11_light_48 h.1 h.2

set_option maxRecDepth 20000 in
theorem VX11_undo_0 {G : m_G} {X : m_X} {d : Nat} {K : Int → m_M → Prop} (C : mC G X YX11_undo (d + 1)) (R : r_i G X K) {μ : m_M}
    (h : c_i G d YX2_giveBack [vR 6 0, vR 10 0] μ (fun r2 μ1 => ((¬ r2 = 0) → c_v G d YX1_forget [vR 7 0] μ1 (fun μ3 => K 1 μ3)) ∧ ((r2 = 0) → c_i G d YX11_refuseWithFalse [vR 1 0, vI 4] μ1 (fun r5 μ4 => (r5 = 0 ∨ r5 = 1) ∧ K r5 μ4)))) :
    mW G X YX11_undo μ 0 [some (vR 1 0)] [] := by
  refine m_aload_n C dX11_undo_0 rfl ?_
  refine f_getO (t := 6) C dX11_undo_1 fl_KilnBench_56 rfl (by decide) (by decide) (by decide) (by decide) ?_
  refine m_aload_n C dX11_undo_4 rfl ?_
  refine f_getO (t := 10) C dX11_undo_5 fl_KilnBench_46 rfl (by decide) (by decide) (by decide) (by decide) ?_
  refine f_callVi (As := [vR 10 0]) (st := []) C dX11_undo_8 ml_KilnBench_298 rfl (by decide) rfl rfl rfl (Nat.le_of_ble_eq_true rfl) h (fun r2 μ1 h => ?_)
  refine m_if_ne (tgt := 20) C dX11_undo_11 (by decide) (fun c => ?_) (fun c => ?_)
  · have h := h.1 c
    refine m_aload_n C dX11_undo_20 rfl ?_
    refine f_getO (t := 7) C dX11_undo_21 fl_KilnBench_65 rfl (by decide) (by decide) (by decide) (by decide) ?_
    refine f_callVv (As := []) (st := []) C dX11_undo_24 ml_KilnBench_125 rfl (by decide) rfl rfl rfl (Nat.le_of_ble_eq_true rfl) h (fun μ3 h => ?_)
    refine m_iconst C dX11_undo_27 (by unfold in32; omega) ?_
    exact f_zret C R rfl dX11_undo_28 (by decide) h
  · have h := h.2 c
    refine m_aload_n C dX11_undo_14 rfl ?_
    refine m_iconst C dX11_undo_15 (by unfold in32; omega) ?_
    refine f_callVi (As := [vI 4]) (st := []) C dX11_undo_16 ml_KilnBench_107 rfl (by decide) rfl rfl rfl (Nat.le_of_ble_eq_true rfl) h (fun r5 μ4 h => ?_)
    exact f_zret C R rfl dX11_undo_19 h.1 h.2

set_option maxRecDepth 20000 in
theorem VX11_seed_0 {G : m_G} {X : m_X} {d : Nat} {K : Int → m_M → Prop} (C : mC G X YX11_seed (d + 1)) (R : r_i G X K) {μ : m_M} {a1 : Int}
    (h : ((0 ≤ a1) → ∀ μ1 : m_M, μ1 = m_up μ 1 0 13 a1 → K 1 μ1) ∧ ((¬ 0 ≤ a1) → c_i G d YX11_refuseWithFalse [vR 1 0, vI 5] μ (fun r3 μ2 => (r3 = 0 ∨ r3 = 1) ∧ K r3 μ2))) :
    mW G X YX11_seed μ 0 [some (vR 1 0), some (vI a1)] [] := by
  refine m_iload_n C dX11_seed_0 rfl ?_
  refine m_if_ge (tgt := 10) C dX11_seed_1 (by decide) (fun c => ?_) (fun c => ?_)
  · have h := h.1 c
    refine m_aload_n C dX11_seed_10 rfl ?_
    refine m_iload_n C dX11_seed_11 rfl ?_
    refine f_putI C dX11_seed_12 fl_KilnBench_87 rfl (by decide) (by decide) (by decide) ?_
    refine n_mem (fun μ1 eμ1 => ?_)
    have h := h μ1 eμ1
    refine m_iconst C dX11_seed_15 (by unfold in32; omega) ?_
    exact f_zret C R rfl dX11_seed_16 (by decide) h
  · have h := h.2 c
    refine m_aload_n C dX11_seed_4 rfl ?_
    refine m_iconst C dX11_seed_5 (by unfold in32; omega) ?_
    refine f_callVi (As := [vI 5]) (st := []) C dX11_seed_6 ml_KilnBench_107 rfl (by decide) rfl rfl rfl (Nat.le_of_ble_eq_true rfl) h (fun r3 μ2 h => ?_)
    exact f_zret C R rfl dX11_seed_9 h.1 h.2

set_option maxRecDepth 20000 in
theorem VX11_kept_0 {G : m_G} {X : m_X} {d : Nat} {K : Int → m_M → Prop} (C : mC G X YX11_kept (d + 1)) (R : r_i G X K) {μ : m_M} {a1 : Int} {a2 : Int}
    (h : ((a1 < 0) → K (-1) μ) ∧ ((¬ a1 < 0) → ((μ 10 0 9 ≤ a1) → K (-1) μ) ∧ ((¬ μ 10 0 9 ≤ a1) → ((a2 < 0) → K (-1) μ) ∧ ((¬ a2 < 0) → ((a2 < 4) → (0 ≤ w32 ((w32 (a1 * 4)) + a2) ∧ w32 ((w32 (a1 * 4)) + a2) < 32) ∧ K (μ 10 9 (w32 ((w32 (a1 * 4)) + a2)).toNat) μ) ∧ ((¬ a2 < 4) → K (-1) μ))))) :
    mW G X YX11_kept μ 0 [some (vR 1 0), some (vI a1), some (vI a2)] [] := by
  refine m_iload_n C dX11_kept_0 rfl ?_
  refine m_if_lt (tgt := 24) C dX11_kept_1 (by decide) (fun c => ?_) (fun c => ?_)
  · have h := h.1 c
    refine m_iconst C dX11_kept_24 (by unfold in32; omega) ?_
    exact f_iret C R rfl dX11_kept_25 h
  · have h := h.2 c
    refine m_iload_n C dX11_kept_4 rfl ?_
    refine m_aload_n C dX11_kept_5 rfl ?_
    refine f_getO (t := 10) C dX11_kept_6 fl_KilnBench_46 rfl (by decide) (by decide) (by decide) (by decide) ?_
    refine f_getI C dX11_kept_9 fl_KilnBench_155 rfl (by decide) (by decide) ?_
    refine m_icmp_ge (tgt := 24) C dX11_kept_12 (by decide) (fun c => ?_) (fun c => ?_)
    · have h := h.1 c
      refine m_iconst C dX11_kept_24 (by unfold in32; omega) ?_
      exact f_iret C R rfl dX11_kept_25 h
    · have h := h.2 c
      refine m_iload_n C dX11_kept_15 rfl ?_
      refine m_if_lt (tgt := 24) C dX11_kept_16 (by decide) (fun c => ?_) (fun c => ?_)
      · have h := h.1 c
        refine m_iconst C dX11_kept_24 (by unfold in32; omega) ?_
        exact f_iret C R rfl dX11_kept_25 h
      · have h := h.2 c
        refine m_iload_n C dX11_kept_19 rfl ?_
        refine m_iconst C dX11_kept_20 (by unfold in32; omega) ?_
        refine m_icmp_lt (tgt := 26) C dX11_kept_21 (by decide) (fun c => ?_) (fun c => ?_)
        · have h := h.1 c
          refine m_aload_n C dX11_kept_26 rfl ?_
          refine f_getO (t := 10) C dX11_kept_27 fl_KilnBench_46 rfl (by decide) (by decide) (by decide) (by decide) ?_
          refine f_getA C dX11_kept_30 fl_KilnBench_302 rfl (by decide) (by decide) (by decide) (by decide) ?_
          refine m_iload_n C dX11_kept_33 rfl ?_
          refine m_iconst C dX11_kept_34 (by unfold in32; omega) ?_
          refine m_imul C dX11_kept_35 ?_
          refine m_iload_n C dX11_kept_36 rfl ?_
          refine m_iadd C dX11_kept_37 ?_
          obtain ⟨hb, h⟩ := h
          refine f_iald C dX11_kept_38 (m_arO (a := 0) (len := 32) rfl rfl) (by decide) hb ?_
          exact f_iret C R rfl dX11_kept_39 h
        · have h := h.2 c
          refine m_iconst C dX11_kept_24 (by unfold in32; omega) ?_
          exact f_iret C R rfl dX11_kept_25 h

set_option maxRecDepth 20000 in
theorem VX11_image_0 {G : m_G} {X : m_X} {d : Nat} {K : Int → m_M → Prop} (C : mC G X YX11_image (d + 1)) (R : r_i G X K) {μ : m_M}
    (h : ∃ t1 : Nat, μ 1 0 2 = 100 * (t1 : Int) ∧ m_cls t1 = 9 ∧ c_v G d YX3_write [vR 9 0, vR 10 0, vR t1 0] μ (fun μ2 => K (μ2 9 0 1) μ2)) :
    mW G X YX11_image μ 0 [some (vR 1 0)] [] := by
  refine m_aload_n C dX11_image_0 rfl ?_
  refine f_getO (t := 9) C dX11_image_1 fl_KilnBench_79 rfl (by decide) (by decide) (by decide) (by decide) ?_
  refine m_aload_n C dX11_image_4 rfl ?_
  refine f_getO (t := 10) C dX11_image_5 fl_KilnBench_46 rfl (by decide) (by decide) (by decide) (by decide) ?_
  refine m_aload_n C dX11_image_8 rfl ?_
  obtain ⟨t1, hx_t1, hc_t1, h⟩ := h
  refine f_getR (t := t1) (w := 0) C dX11_image_9 fl_KilnBench_20 rfl (by decide) (by decide) (by rw [hx_t1]; omega) (by decide) (m_cls0 hc_t1 (by decide)) ?_
  refine f_callVv (As := [vR 10 0, vR t1 0]) (st := []) C dX11_image_12 ml_KilnBench_305 rfl (by decide) rfl rfl rfl (Nat.le_of_ble_eq_true rfl) h (fun μ2 h => ?_)
  refine m_aload_n C dX11_image_15 rfl ?_
  refine f_getO (t := 9) C dX11_image_16 fl_KilnBench_79 rfl (by decide) (by decide) (by decide) (by decide) ?_
  refine f_getI C dX11_image_19 fl_KilnBench_309 rfl (by decide) (by decide) ?_
  exact f_iret C R rfl dX11_image_22 h

set_option maxRecDepth 20000 in
theorem VX11_octet_0 {G : m_G} {X : m_X} {d : Nat} {K : Int → m_M → Prop} (C : mC G X YX11_octet (d + 1)) (R : r_i G X K) {μ : m_M} {a1 : Int}
    (h : ((a1 < 0) → K (-1) μ) ∧ ((¬ a1 < 0) → ((μ 9 0 1 ≤ a1) → K (-1) μ) ∧ ((¬ μ 9 0 1 ≤ a1) → (0 ≤ a1 ∧ a1 < 56) ∧ K (μ 9 1 a1.toNat) μ))) :
    mW G X YX11_octet μ 0 [some (vR 1 0), some (vI a1)] [] := by
  refine m_iload_n C dX11_octet_0 rfl ?_
  refine m_if_lt (tgt := 27) C dX11_octet_1 (by decide) (fun c => ?_) (fun c => ?_)
  · have h := h.1 c
    refine m_iconst C dX11_octet_27 (by unfold in32; omega) ?_
    exact f_iret C R rfl dX11_octet_28 h
  · have h := h.2 c
    refine m_iload_n C dX11_octet_4 rfl ?_
    refine m_aload_n C dX11_octet_5 rfl ?_
    refine f_getO (t := 9) C dX11_octet_6 fl_KilnBench_79 rfl (by decide) (by decide) (by decide) (by decide) ?_
    refine f_getI C dX11_octet_9 fl_KilnBench_309 rfl (by decide) (by decide) ?_
    refine m_icmp_ge (tgt := 27) C dX11_octet_12 (by decide) (fun c => ?_) (fun c => ?_)
    · have h := h.1 c
      refine m_iconst C dX11_octet_27 (by unfold in32; omega) ?_
      exact f_iret C R rfl dX11_octet_28 h
    · have h := h.2 c
      refine m_aload_n C dX11_octet_15 rfl ?_
      refine f_getO (t := 9) C dX11_octet_16 fl_KilnBench_79 rfl (by decide) (by decide) (by decide) (by decide) ?_
      refine f_getA C dX11_octet_19 fl_KilnBench_312 rfl (by decide) (by decide) (by decide) (by decide) ?_
      refine m_iload_n C dX11_octet_22 rfl ?_
      obtain ⟨hb, h⟩ := h
      refine f_iald C dX11_octet_23 (m_arO (a := 0) (len := 56) rfl rfl) (by decide) hb ?_
      refine m_goto (tgt := 28) C dX11_octet_24 (by decide) ?_
      exact f_iret C R rfl dX11_octet_28 h

set_option maxRecDepth 20000 in
theorem VX11_on_0 {G : m_G} {X : m_X} {d : Nat} {K : Int → m_M → Prop} (C : mC G X YX11_on (d + 1)) (R : r_i G X K) {μ : m_M}
    (h : ∀ x1 : Int, x1 = μ 1 0 1 → ∀ μ2 : m_M, μ2 = m_up μ 1 0 1 0 → ∃ t3 : Nat, μ2 1 0 2 = 100 * (t3 : Int) ∧ m_cls t3 = 9 ∧ c_i G d YX3_read [vR 9 0, vR 1 1, vI x1, vR t3 0, vR 11 0] μ2 (fun r5 μ4 => ((¬ r5 = 0) → c_v G d YX0_copyFrom [vR 10 0, vR 11 0] μ4 (fun μ6 => ∀ μ7 : m_M, μ7 = m_up μ6 6 0 2 0 → c_v G d YX1_forget [vR 7 0] μ7 (fun μ8 => K 1 μ8))) ∧ ((r5 = 0) → c_i G d YX11_refuseWithFalse [vR 1 0, vI 5] μ4 (fun r10 μ9 => (r10 = 0 ∨ r10 = 1) ∧ K r10 μ9)))) :
    mW G X YX11_on μ 0 [some (vR 1 0), none] [] := by
  refine m_aload_n C dX11_on_0 rfl ?_
  refine f_getI C dX11_on_1 fl_KilnBench_13 rfl (by decide) (by decide) ?_
  refine n_istore_n (fun x1 => [some (vR 1 0), some (vI x1)]) C dX11_on_4 (by decide) (fun _ => rfl) (fun x1 ex1 => ?_)
  have h := h x1 ex1
  refine m_aload_n C dX11_on_5 rfl ?_
  refine m_iconst C dX11_on_6 (by unfold in32; omega) ?_
  refine f_putI C dX11_on_7 fl_KilnBench_13 rfl (by decide) (by decide) (by decide) ?_
  refine n_mem (fun μ2 eμ2 => ?_)
  have h := h μ2 eμ2
  refine m_aload_n C dX11_on_10 rfl ?_
  refine f_getO (t := 9) C dX11_on_11 fl_KilnBench_79 rfl (by decide) (by decide) (by decide) (by decide) ?_
  refine m_aload_n C dX11_on_14 rfl ?_
  refine f_getA C dX11_on_15 fl_KilnBench_9 rfl (by decide) (by decide) (by decide) (by decide) ?_
  refine m_iload_n C dX11_on_18 rfl ?_
  refine m_aload_n C dX11_on_19 rfl ?_
  obtain ⟨t3, hx_t3, hc_t3, h⟩ := h
  refine f_getR (t := t3) (w := 0) C dX11_on_20 fl_KilnBench_20 rfl (by decide) (by decide) (by rw [hx_t3]; omega) (by decide) (m_cls0 hc_t3 (by decide)) ?_
  refine m_aload_n C dX11_on_23 rfl ?_
  refine f_getO (t := 11) C dX11_on_24 fl_KilnBench_50 rfl (by decide) (by decide) (by decide) (by decide) ?_
  refine f_callVi (As := [vR 1 1, vI x1, vR t3 0, vR 11 0]) (st := []) C dX11_on_27 ml_KilnBench_315 rfl (by decide) rfl rfl rfl (Nat.le_of_ble_eq_true rfl) h (fun r5 μ4 h => ?_)
  refine m_if_ne (tgt := 39) C dX11_on_30 (by decide) (fun c => ?_) (fun c => ?_)
  · have h := h.1 c
    refine m_aload_n C dX11_on_39 rfl ?_
    refine f_getO (t := 10) C dX11_on_40 fl_KilnBench_46 rfl (by decide) (by decide) (by decide) (by decide) ?_
    refine m_aload_n C dX11_on_43 rfl ?_
    refine f_getO (t := 11) C dX11_on_44 fl_KilnBench_50 rfl (by decide) (by decide) (by decide) (by decide) ?_
    refine f_callVv (As := [vR 11 0]) (st := []) C dX11_on_47 ml_KilnBench_249 rfl (by decide) rfl rfl rfl (Nat.le_of_ble_eq_true rfl) h (fun μ6 h => ?_)
    refine m_aload_n C dX11_on_50 rfl ?_
    refine f_getO (t := 6) C dX11_on_51 fl_KilnBench_56 rfl (by decide) (by decide) (by decide) (by decide) ?_
    refine m_iconst C dX11_on_54 (by unfold in32; omega) ?_
    refine f_putI C dX11_on_55 fl_KilnBench_124 rfl (by decide) (by decide) (by decide) ?_
    refine n_mem (fun μ7 eμ7 => ?_)
    have h := h μ7 eμ7
    refine m_aload_n C dX11_on_58 rfl ?_
    refine f_getO (t := 7) C dX11_on_59 fl_KilnBench_65 rfl (by decide) (by decide) (by decide) (by decide) ?_
    refine f_callVv (As := []) (st := []) C dX11_on_62 ml_KilnBench_125 rfl (by decide) rfl rfl rfl (Nat.le_of_ble_eq_true rfl) h (fun μ8 h => ?_)
    refine m_iconst C dX11_on_65 (by unfold in32; omega) ?_
    exact f_zret C R rfl dX11_on_66 (by decide) h
  · have h := h.2 c
    refine m_aload_n C dX11_on_33 rfl ?_
    refine m_iconst C dX11_on_34 (by unfold in32; omega) ?_
    refine f_callVi (As := [vI 5]) (st := []) C dX11_on_35 ml_KilnBench_107 rfl (by decide) rfl rfl rfl (Nat.le_of_ble_eq_true rfl) h (fun r10 μ9 h => ?_)
    exact f_zret C R rfl dX11_on_38 h.1 h.2

set_option maxRecDepth 20000 in
theorem VX11_status_0 {G : m_G} {X : m_X} {d : Nat} {K : Int → m_M → Prop} (C : mC G X YX11_status (d + 1)) (R : r_i G X K) {μ : m_M} {a1 : Int}
    (h : ((a1 < 0) → K (-1) μ) ∧ ((¬ a1 < 0) → ((6 ≤ a1) → K (-1) μ) ∧ ((¬ 6 ≤ a1) → (0 ≤ a1 ∧ a1 < 6) ∧ K (μ 1 13 a1.toNat) μ))) :
    mW G X YX11_status μ 0 [some (vR 1 0), some (vI a1)] [] := by
  refine m_iload_n C dX11_status_0 rfl ?_
  refine m_if_lt (tgt := 22) C dX11_status_1 (by decide) (fun c => ?_) (fun c => ?_)
  · have h := h.1 c
    refine m_iconst C dX11_status_22 (by unfold in32; omega) ?_
    exact f_iret C R rfl dX11_status_23 h
  · have h := h.2 c
    refine m_iload_n C dX11_status_4 rfl ?_
    refine m_aload_n C dX11_status_5 rfl ?_
    refine f_getA C dX11_status_6 fl_KilnBench_83 rfl (by decide) (by decide) (by decide) (by decide) ?_
    refine f_alen C dX11_status_9 (m_arO (a := 0) (len := 6) rfl rfl) (by decide) (by decide) (by decide) ?_
    refine m_icmp_ge (tgt := 22) C dX11_status_10 (by decide) (fun c => ?_) (fun c => ?_)
    · have h := h.1 c
      refine m_iconst C dX11_status_22 (by unfold in32; omega) ?_
      exact f_iret C R rfl dX11_status_23 h
    · have h := h.2 c
      refine m_aload_n C dX11_status_13 rfl ?_
      refine f_getA C dX11_status_14 fl_KilnBench_83 rfl (by decide) (by decide) (by decide) (by decide) ?_
      refine m_iload_n C dX11_status_17 rfl ?_
      obtain ⟨hb, h⟩ := h
      refine f_iald C dX11_status_18 (m_arO (a := 0) (len := 6) rfl rfl) (by decide) hb ?_
      refine m_goto (tgt := 23) C dX11_status_19 (by decide) ?_
      exact f_iret C R rfl dX11_status_23 h

set_option maxRecDepth 20000 in
theorem VX11_refuseWithNone_0 {G : m_G} {X : m_X} {d : Nat} {K : Int → m_M → Prop} (C : mC G X YX11_refuseWithNone (d + 1)) (R : r_i G X K) {μ : m_M} {a1 : Int}
    (h : (0 ≤ a1 ∧ a1 < 6) ∧ (0 ≤ a1 ∧ a1 < 6) ∧ ∀ μ1 : m_M, μ1 = m_up μ 1 13 a1.toNat (w32 ((μ 1 13 a1.toNat) + 1)) → K (-1) μ1) :
    mW G X YX11_refuseWithNone μ 0 [some (vR 1 0), some (vI a1)] [] := by
  refine m_aload_n C dX11_refuseWithNone_0 rfl ?_
  refine f_getA C dX11_refuseWithNone_1 fl_KilnBench_83 rfl (by decide) (by decide) (by decide) (by decide) ?_
  refine m_iload_n C dX11_refuseWithNone_4 rfl ?_
  refine m_dup2 C dX11_refuseWithNone_5 rfl rfl ?_
  obtain ⟨hb, h⟩ := h
  refine f_iald C dX11_refuseWithNone_6 (m_arO (a := 0) (len := 6) rfl rfl) (by decide) hb ?_
  refine m_iconst C dX11_refuseWithNone_7 (by unfold in32; omega) ?_
  refine m_iadd C dX11_refuseWithNone_8 ?_
  obtain ⟨hb, h⟩ := h
  refine f_iast C dX11_refuseWithNone_9 (m_arO (a := 0) (len := 6) rfl rfl) (by decide) hb ?_
  refine n_mem (fun μ1 eμ1 => ?_)
  have h := h μ1 eμ1
  refine m_iconst C dX11_refuseWithNone_10 (by unfold in32; omega) ?_
  exact f_iret C R rfl dX11_refuseWithNone_11 h

set_option maxRecDepth 20000 in
theorem VX11_refuseWithFalse_0 {G : m_G} {X : m_X} {d : Nat} {K : Int → m_M → Prop} (C : mC G X YX11_refuseWithFalse (d + 1)) (R : r_i G X K) {μ : m_M} {a1 : Int}
    (h : (0 ≤ a1 ∧ a1 < 6) ∧ (0 ≤ a1 ∧ a1 < 6) ∧ ∀ μ1 : m_M, μ1 = m_up μ 1 13 a1.toNat (w32 ((μ 1 13 a1.toNat) + 1)) → K 0 μ1) :
    mW G X YX11_refuseWithFalse μ 0 [some (vR 1 0), some (vI a1)] [] := by
  refine m_aload_n C dX11_refuseWithFalse_0 rfl ?_
  refine f_getA C dX11_refuseWithFalse_1 fl_KilnBench_83 rfl (by decide) (by decide) (by decide) (by decide) ?_
  refine m_iload_n C dX11_refuseWithFalse_4 rfl ?_
  refine m_dup2 C dX11_refuseWithFalse_5 rfl rfl ?_
  obtain ⟨hb, h⟩ := h
  refine f_iald C dX11_refuseWithFalse_6 (m_arO (a := 0) (len := 6) rfl rfl) (by decide) hb ?_
  refine m_iconst C dX11_refuseWithFalse_7 (by unfold in32; omega) ?_
  refine m_iadd C dX11_refuseWithFalse_8 ?_
  obtain ⟨hb, h⟩ := h
  refine f_iast C dX11_refuseWithFalse_9 (m_arO (a := 0) (len := 6) rfl rfl) (by decide) hb ?_
  refine n_mem (fun μ1 eμ1 => ?_)
  have h := h μ1 eμ1
  refine m_iconst C dX11_refuseWithFalse_10 (by unfold in32; omega) ?_
  exact f_zret C R rfl dX11_refuseWithFalse_11 (by decide) h

set_option maxRecDepth 20000 in
theorem VX11_putWord_0 {G : m_G} {X : m_X} {d : Nat} {K : m_M → Prop} (C : mC G X YX11_putWord (d + 1)) (R : r_v G X K) {μ : m_M} {a1 : Int}
    (h : mW G X YX11_putWord μ 3 [some (vR 1 0), some (vI a1), some (vI 24)] []) :
    mW G X YX11_putWord μ 0 [some (vR 1 0), some (vI a1), none] [] := by
  refine m_bipush C dX11_putWord_0 (by omega) ?_
  refine o_istore_n [some (vR 1 0), some (vI a1), some (vI 24)] C dX11_putWord_2 (by decide) rfl ?_
  exact h

set_option maxRecDepth 20000 in
theorem VX11_putWord_3 {G : m_G} {X : m_X} {d : Nat} {K : m_M → Prop} (C : mC G X YX11_putWord (d + 1)) (R : r_v G X K) {μ : m_M} {a1 : Int} {l2 : Int}
    (h : ((l2 < 0) → K μ) ∧ ((¬ l2 < 0) → ((1600 ≤ μ 1 0 1) → K μ) ∧ ((¬ 1600 ≤ μ 1 0 1) → (0 ≤ μ 1 0 1 ∧ μ 1 0 1 < 1600) ∧ ∀ μ1 : m_M, μ1 = m_up μ 1 1 (μ 1 0 1).toNat (i_b (i_b (i_shr a1 l2))) → ∀ μ2 : m_M, μ2 = m_up μ1 1 0 1 (w32 ((μ1 1 0 1) + 1)) → ∀ x3 : Int, x3 = w32 (l2 + (-8)) → mW G X YX11_putWord μ2 3 [some (vR 1 0), some (vI a1), some (vI x3)] []))) :
    mW G X YX11_putWord μ 3 [some (vR 1 0), some (vI a1), some (vI l2)] [] := by
  refine m_iload_n C dX11_putWord_3 rfl ?_
  refine m_if_lt (tgt := 46) C dX11_putWord_4 (by decide) (fun c => ?_) (fun c => ?_)
  · have h := h.1 c
    exact f_vret C R rfl dX11_putWord_46 h
  · have h := h.2 c
    refine m_aload_n C dX11_putWord_7 rfl ?_
    refine f_getI C dX11_putWord_8 fl_KilnBench_13 rfl (by decide) (by decide) ?_
    refine m_sipush C dX11_putWord_11 (by omega) ?_
    refine m_icmp_ge (tgt := 46) C dX11_putWord_14 (by decide) (fun c => ?_) (fun c => ?_)
    · have h := h.1 c
      exact f_vret C R rfl dX11_putWord_46 h
    · have h := h.2 c
      refine m_aload_n C dX11_putWord_17 rfl ?_
      refine f_getA C dX11_putWord_18 fl_KilnBench_9 rfl (by decide) (by decide) (by decide) (by decide) ?_
      refine m_aload_n C dX11_putWord_21 rfl ?_
      refine f_getI C dX11_putWord_22 fl_KilnBench_13 rfl (by decide) (by decide) ?_
      refine m_iload_n C dX11_putWord_25 rfl ?_
      refine m_iload_n C dX11_putWord_26 rfl ?_
      refine m_ishr C dX11_putWord_27 ?_
      refine m_i2b C dX11_putWord_28 ?_
      obtain ⟨hb, h⟩ := h
      refine f_bast C dX11_putWord_29 (m_arO (a := 1) (len := 1600) rfl rfl) (by decide) hb ?_
      refine n_mem (fun μ1 eμ1 => ?_)
      have h := h μ1 eμ1
      refine m_aload_n C dX11_putWord_30 rfl ?_
      refine m_dup C dX11_putWord_31 rfl ?_
      refine f_getI C dX11_putWord_32 fl_KilnBench_13 rfl (by decide) (by decide) ?_
      refine m_iconst C dX11_putWord_35 (by unfold in32; omega) ?_
      refine m_iadd C dX11_putWord_36 ?_
      refine f_putI C dX11_putWord_37 fl_KilnBench_13 rfl (by decide) (by decide) (by decide) ?_
      refine n_mem (fun μ2 eμ2 => ?_)
      have h := h μ2 eμ2
      refine n_iinc (fun x3 => [some (vR 1 0), some (vI a1), some (vI x3)]) C dX11_putWord_40 rfl (by decide) (fun _ => rfl) (fun x3 ex3 => ?_)
      have h := h x3 ex3
      refine m_goto (tgt := 3) C dX11_putWord_43 (by decide) ?_
      exact h

set_option maxRecDepth 20000 in
theorem VX11_isChild_0 {G : m_G} {X : m_X} {d : Nat} {K : Int → m_M → Prop} (C : mC G X YX11_isChild (d + 1)) (R : r_i G X K) {μ : m_M} {a1 : Int}
    (h : ((a1 < 0) → K 0 μ) ∧ ((¬ a1 < 0) → ∃ t1 : Nat, μ 1 0 2 = 100 * (t1 : Int) ∧ m_cls t1 = 9 ∧ ((μ t1 0 3 ≤ a1) → K 0 μ) ∧ ((¬ μ t1 0 3 ≤ a1) → K 1 μ))) :
    mW G X YX11_isChild μ 0 [some (vR 1 0), some (vI a1)] [] := by
  refine m_iload_n C dX11_isChild_0 rfl ?_
  refine m_if_lt (tgt := 19) C dX11_isChild_1 (by decide) (fun c => ?_) (fun c => ?_)
  · have h := h.1 c
    refine m_iconst C dX11_isChild_19 (by unfold in32; omega) ?_
    exact f_zret C R rfl dX11_isChild_20 (by decide) h
  · have h := h.2 c
    refine m_iload_n C dX11_isChild_4 rfl ?_
    refine m_aload_n C dX11_isChild_5 rfl ?_
    obtain ⟨t1, hx_t1, hc_t1, h⟩ := h
    refine f_getR (t := t1) (w := 0) C dX11_isChild_6 fl_KilnBench_20 rfl (by decide) (by decide) (by rw [hx_t1]; omega) (by decide) (m_cls0 hc_t1 (by decide)) ?_
    refine f_getI C dX11_isChild_9 fl_KilnBench_131 hc_t1 (by decide) (by decide) ?_
    refine m_icmp_ge (tgt := 19) C dX11_isChild_12 (by decide) (fun c => ?_) (fun c => ?_)
    · have h := h.1 c
      refine m_iconst C dX11_isChild_19 (by unfold in32; omega) ?_
      exact f_zret C R rfl dX11_isChild_20 (by decide) h
    · have h := h.2 c
      refine m_iconst C dX11_isChild_15 (by unfold in32; omega) ?_
      refine m_goto (tgt := 20) C dX11_isChild_16 (by decide) ?_
      exact f_zret C R rfl dX11_isChild_20 (by decide) h

set_option maxRecDepth 20000 in
theorem VX11_isKiln_0 {G : m_G} {X : m_X} {d : Nat} {K : Int → m_M → Prop} (C : mC G X YX11_isKiln (d + 1)) (R : r_i G X K) {μ : m_M} {a1 : Int}
    (h : ((a1 < 0) → K 0 μ) ∧ ((¬ a1 < 0) → ∃ t1 : Nat, μ 1 0 2 = 100 * (t1 : Int) ∧ m_cls t1 = 9 ∧ ((μ t1 0 6 ≤ a1) → K 0 μ) ∧ ((¬ μ t1 0 6 ≤ a1) → K 1 μ))) :
    mW G X YX11_isKiln μ 0 [some (vR 1 0), some (vI a1)] [] := by
  refine m_iload_n C dX11_isKiln_0 rfl ?_
  refine m_if_lt (tgt := 19) C dX11_isKiln_1 (by decide) (fun c => ?_) (fun c => ?_)
  · have h := h.1 c
    refine m_iconst C dX11_isKiln_19 (by unfold in32; omega) ?_
    exact f_zret C R rfl dX11_isKiln_20 (by decide) h
  · have h := h.2 c
    refine m_iload_n C dX11_isKiln_4 rfl ?_
    refine m_aload_n C dX11_isKiln_5 rfl ?_
    obtain ⟨t1, hx_t1, hc_t1, h⟩ := h
    refine f_getR (t := t1) (w := 0) C dX11_isKiln_6 fl_KilnBench_20 rfl (by decide) (by decide) (by rw [hx_t1]; omega) (by decide) (m_cls0 hc_t1 (by decide)) ?_
    refine f_getI C dX11_isKiln_9 fl_KilnBench_134 hc_t1 (by decide) (by decide) ?_
    refine m_icmp_ge (tgt := 19) C dX11_isKiln_12 (by decide) (fun c => ?_) (fun c => ?_)
    · have h := h.1 c
      refine m_iconst C dX11_isKiln_19 (by unfold in32; omega) ?_
      exact f_zret C R rfl dX11_isKiln_20 (by decide) h
    · have h := h.2 c
      refine m_iconst C dX11_isKiln_15 (by unfold in32; omega) ?_
      refine m_goto (tgt := 20) C dX11_isKiln_16 (by decide) ?_
      exact f_zret C R rfl dX11_isKiln_20 (by decide) h

set_option maxRecDepth 20000 in
theorem VX11_isPlaceOf_0 {G : m_G} {X : m_X} {d : Nat} {K : Int → m_M → Prop} (C : mC G X YX11_isPlaceOf (d + 1)) (R : r_i G X K) {μ : m_M} {a1 : Int} {a2 : Int}
    (h : c_i G d YX11_isKiln [vR 1 0, vI a1] μ (fun r2 μ1 => ((r2 = 0) → K 0 μ1) ∧ ((¬ r2 = 0) → ((a2 < 0) → K 0 μ1) ∧ ((¬ a2 < 0) → ∃ t3 : Nat, μ1 1 0 2 = 100 * (t3 : Int) ∧ m_cls t3 = 9 ∧ (0 ≤ a1 ∧ a1 < 3) ∧ ((μ1 t3 6 a1.toNat ≤ a2) → K 0 μ1) ∧ ((¬ μ1 t3 6 a1.toNat ≤ a2) → K 1 μ1))))) :
    mW G X YX11_isPlaceOf μ 0 [some (vR 1 0), some (vI a1), some (vI a2)] [] := by
  refine m_aload_n C dX11_isPlaceOf_0 rfl ?_
  refine m_iload_n C dX11_isPlaceOf_1 rfl ?_
  refine f_callVi (As := [vI a1]) (st := []) C dX11_isPlaceOf_2 ml_KilnBench_167 rfl (by decide) rfl rfl rfl (Nat.le_of_ble_eq_true rfl) h (fun r2 μ1 h => ?_)
  refine m_if_eq (tgt := 29) C dX11_isPlaceOf_5 (by decide) (fun c => ?_) (fun c => ?_)
  · have h := h.1 c
    refine m_iconst C dX11_isPlaceOf_29 (by unfold in32; omega) ?_
    exact f_zret C R rfl dX11_isPlaceOf_30 (by decide) h
  · have h := h.2 c
    refine m_iload_n C dX11_isPlaceOf_8 rfl ?_
    refine m_if_lt (tgt := 29) C dX11_isPlaceOf_9 (by decide) (fun c => ?_) (fun c => ?_)
    · have h := h.1 c
      refine m_iconst C dX11_isPlaceOf_29 (by unfold in32; omega) ?_
      exact f_zret C R rfl dX11_isPlaceOf_30 (by decide) h
    · have h := h.2 c
      refine m_iload_n C dX11_isPlaceOf_12 rfl ?_
      refine m_aload_n C dX11_isPlaceOf_13 rfl ?_
      obtain ⟨t3, hx_t3, hc_t3, h⟩ := h
      refine f_getR (t := t3) (w := 0) C dX11_isPlaceOf_14 fl_KilnBench_20 rfl (by decide) (by decide) (by rw [hx_t3]; omega) (by decide) (m_cls0 hc_t3 (by decide)) ?_
      refine f_getA C dX11_isPlaceOf_17 fl_KilnBench_194 hc_t3 (by decide) (by decide) (by decide) (by decide) ?_
      refine m_iload_n C dX11_isPlaceOf_20 rfl ?_
      obtain ⟨hb, h⟩ := h
      refine f_iald C dX11_isPlaceOf_21 (m_arO (a := 0) (len := 3) hc_t3 rfl) (by decide) hb ?_
      refine m_icmp_ge (tgt := 29) C dX11_isPlaceOf_22 (by decide) (fun c => ?_) (fun c => ?_)
      · have h := h.1 c
        refine m_iconst C dX11_isPlaceOf_29 (by unfold in32; omega) ?_
        exact f_zret C R rfl dX11_isPlaceOf_30 (by decide) h
      · have h := h.2 c
        refine m_iconst C dX11_isPlaceOf_25 (by unfold in32; omega) ?_
        refine m_goto (tgt := 30) C dX11_isPlaceOf_26 (by decide) ?_
        exact f_zret C R rfl dX11_isPlaceOf_30 (by decide) h

set_option maxRecDepth 20000 in
theorem VX11_isPlace_0 {G : m_G} {X : m_X} {d : Nat} {K : Int → m_M → Prop} (C : mC G X YX11_isPlace (d + 1)) (R : r_i G X K) {μ : m_M} {a1 : Int}
    (h : ((a1 < 0) → K 0 μ) ∧ ((¬ a1 < 0) → ((6 ≤ a1) → K 0 μ) ∧ ((¬ 6 ≤ a1) → K 1 μ))) :
    mW G X YX11_isPlace μ 0 [some (vI a1)] [] := by
  refine m_iload_n C dX11_isPlace_0 rfl ?_
  refine m_if_lt (tgt := 14) C dX11_isPlace_1 (by decide) (fun c => ?_) (fun c => ?_)
  · have h := h.1 c
    refine m_iconst C dX11_isPlace_14 (by unfold in32; omega) ?_
    exact f_zret C R rfl dX11_isPlace_15 (by decide) h
  · have h := h.2 c
    refine m_iload_n C dX11_isPlace_4 rfl ?_
    refine m_bipush C dX11_isPlace_5 (by omega) ?_
    refine m_icmp_ge (tgt := 14) C dX11_isPlace_7 (by decide) (fun c => ?_) (fun c => ?_)
    · have h := h.1 c
      refine m_iconst C dX11_isPlace_14 (by unfold in32; omega) ?_
      exact f_zret C R rfl dX11_isPlace_15 (by decide) h
    · have h := h.2 c
      refine m_iconst C dX11_isPlace_10 (by unfold in32; omega) ?_
      refine m_goto (tgt := 15) C dX11_isPlace_11 (by decide) ?_
      exact f_zret C R rfl dX11_isPlace_15 (by decide) h

set_option maxRecDepth 20000 in
theorem VX11_isHeat_0 {G : m_G} {X : m_X} {d : Nat} {K : Int → m_M → Prop} (C : mC G X YX11_isHeat (d + 1)) (R : r_i G X K) {μ : m_M} {a1 : Int}
    (h : ((a1 < 0) → K 0 μ) ∧ ((¬ a1 < 0) → ((20 < a1) → K 0 μ) ∧ ((¬ 20 < a1) → K 1 μ))) :
    mW G X YX11_isHeat μ 0 [some (vI a1)] [] := by
  refine m_iload_n C dX11_isHeat_0 rfl ?_
  refine m_if_lt (tgt := 14) C dX11_isHeat_1 (by decide) (fun c => ?_) (fun c => ?_)
  · have h := h.1 c
    refine m_iconst C dX11_isHeat_14 (by unfold in32; omega) ?_
    exact f_zret C R rfl dX11_isHeat_15 (by decide) h
  · have h := h.2 c
    refine m_iload_n C dX11_isHeat_4 rfl ?_
    refine m_bipush C dX11_isHeat_5 (by omega) ?_
    refine m_icmp_gt (tgt := 14) C dX11_isHeat_7 (by decide) (fun c => ?_) (fun c => ?_)
    · have h := h.1 c
      refine m_iconst C dX11_isHeat_14 (by unfold in32; omega) ?_
      exact f_zret C R rfl dX11_isHeat_15 (by decide) h
    · have h := h.2 c
      refine m_iconst C dX11_isHeat_10 (by unfold in32; omega) ?_
      refine m_goto (tgt := 15) C dX11_isHeat_11 (by decide) ?_
      exact f_zret C R rfl dX11_isHeat_15 (by decide) h

set_option maxRecDepth 20000 in
theorem VX11_canPass_0 {G : m_G} {X : m_X} {d : Nat} {K : Int → m_M → Prop} (C : mC G X YX11_canPass (d + 1)) (R : r_i G X K) {μ : m_M} {a1 : Int}
    (h : ((a1 < 1) → K 0 μ) ∧ ((¬ a1 < 1) → ((40 < a1) → K 0 μ) ∧ ((¬ 40 < a1) → ((999 < w32 ((μ 10 0 0) + a1)) → K 0 μ) ∧ ((¬ 999 < w32 ((μ 10 0 0) + a1)) → K 1 μ)))) :
    mW G X YX11_canPass μ 0 [some (vR 1 0), some (vI a1)] [] := by
  refine m_iload_n C dX11_canPass_0 rfl ?_
  refine m_iconst C dX11_canPass_1 (by unfold in32; omega) ?_
  refine m_icmp_lt (tgt := 30) C dX11_canPass_2 (by decide) (fun c => ?_) (fun c => ?_)
  · have h := h.1 c
    refine m_iconst C dX11_canPass_30 (by unfold in32; omega) ?_
    exact f_zret C R rfl dX11_canPass_31 (by decide) h
  · have h := h.2 c
    refine m_iload_n C dX11_canPass_5 rfl ?_
    refine m_bipush C dX11_canPass_6 (by omega) ?_
    refine m_icmp_gt (tgt := 30) C dX11_canPass_8 (by decide) (fun c => ?_) (fun c => ?_)
    · have h := h.1 c
      refine m_iconst C dX11_canPass_30 (by unfold in32; omega) ?_
      exact f_zret C R rfl dX11_canPass_31 (by decide) h
    · have h := h.2 c
      refine m_aload_n C dX11_canPass_11 rfl ?_
      refine f_getO (t := 10) C dX11_canPass_12 fl_KilnBench_46 rfl (by decide) (by decide) (by decide) (by decide) ?_
      refine f_getI C dX11_canPass_15 fl_KilnBench_137 rfl (by decide) (by decide) ?_
      refine m_iload_n C dX11_canPass_18 rfl ?_
      refine m_iadd C dX11_canPass_19 ?_
      refine m_sipush C dX11_canPass_20 (by omega) ?_
      refine m_icmp_gt (tgt := 30) C dX11_canPass_23 (by decide) (fun c => ?_) (fun c => ?_)
      · have h := h.1 c
        refine m_iconst C dX11_canPass_30 (by unfold in32; omega) ?_
        exact f_zret C R rfl dX11_canPass_31 (by decide) h
      · have h := h.2 c
        refine m_iconst C dX11_canPass_26 (by unfold in32; omega) ?_
        refine m_goto (tgt := 31) C dX11_canPass_27 (by decide) ?_
        exact f_zret C R rfl dX11_canPass_31 (by decide) h

set_option maxRecDepth 20000 in
theorem VX11_beginAct_0 {G : m_G} {X : m_X} {d : Nat} {K : m_M → Prop} (C : mC G X YX11_beginAct (d + 1)) (R : r_v G X K) {μ : m_M}
    (h : c_v G d YX2_keep [vR 6 0, vR 10 0] μ (fun μ1 => c_v G d YX1_forget [vR 7 0] μ1 (fun μ2 => K μ2))) :
    mW G X YX11_beginAct μ 0 [some (vR 1 0)] [] := by
  refine m_aload_n C dX11_beginAct_0 rfl ?_
  refine f_getO (t := 6) C dX11_beginAct_1 fl_KilnBench_56 rfl (by decide) (by decide) (by decide) (by decide) ?_
  refine m_aload_n C dX11_beginAct_4 rfl ?_
  refine f_getO (t := 10) C dX11_beginAct_5 fl_KilnBench_46 rfl (by decide) (by decide) (by decide) (by decide) ?_
  refine f_callVv (As := [vR 10 0]) (st := []) C dX11_beginAct_8 ml_KilnBench_318 rfl (by decide) rfl rfl rfl (Nat.le_of_ble_eq_true rfl) h (fun μ1 h => ?_)
  refine m_aload_n C dX11_beginAct_11 rfl ?_
  refine f_getO (t := 7) C dX11_beginAct_12 fl_KilnBench_65 rfl (by decide) (by decide) (by decide) (by decide) ?_
  refine f_callVv (As := []) (st := []) C dX11_beginAct_15 ml_KilnBench_125 rfl (by decide) rfl rfl rfl (Nat.le_of_ble_eq_true rfl) h (fun μ2 h => ?_)
  exact f_vret C R rfl dX11_beginAct_18 h

set_option maxRecDepth 20000 in
theorem VX11_lookAhead_0 {G : m_G} {X : m_X} {d : Nat} {K : Int → m_M → Prop} (C : mC G X YX11_lookAhead (d + 1)) (R : r_i G X K) {μ : m_M} {a1 : Int}
    (h : ((a1 = 0) → c_v G d YX0_copyFrom [vR 11 0, vR 10 0] μ (fun μ1 => mW G X YX11_lookAhead μ1 27 [some (vR 1 0), some (vI a1), some (vI 0)] [])) ∧ ((¬ a1 = 0) → c_i G d YX11_canPass [vR 1 0, vI a1] μ (fun r4 μ3 => ((¬ r4 = 0) → c_v G d YX0_copyFrom [vR 11 0, vR 10 0] μ3 (fun μ5 => mW G X YX11_lookAhead μ5 27 [some (vR 1 0), some (vI a1), some (vI 0)] [])) ∧ ((r4 = 0) → K 0 μ3)))) :
    mW G X YX11_lookAhead μ 0 [some (vR 1 0), some (vI a1), none] [] := by
  refine m_iload_n C dX11_lookAhead_0 rfl ?_
  refine m_if_eq (tgt := 14) C dX11_lookAhead_1 (by decide) (fun c => ?_) (fun c => ?_)
  · have h := h.1 c
    refine m_aload_n C dX11_lookAhead_14 rfl ?_
    refine f_getO (t := 11) C dX11_lookAhead_15 fl_KilnBench_50 rfl (by decide) (by decide) (by decide) (by decide) ?_
    refine m_aload_n C dX11_lookAhead_18 rfl ?_
    refine f_getO (t := 10) C dX11_lookAhead_19 fl_KilnBench_46 rfl (by decide) (by decide) (by decide) (by decide) ?_
    refine f_callVv (As := [vR 10 0]) (st := []) C dX11_lookAhead_22 ml_KilnBench_249 rfl (by decide) rfl rfl rfl (Nat.le_of_ble_eq_true rfl) h (fun μ1 h => ?_)
    refine m_iconst C dX11_lookAhead_25 (by unfold in32; omega) ?_
    refine o_istore_n [some (vR 1 0), some (vI a1), some (vI 0)] C dX11_lookAhead_26 (by decide) rfl ?_
    exact h
  · have h := h.2 c
    refine m_aload_n C dX11_lookAhead_4 rfl ?_
    refine m_iload_n C dX11_lookAhead_5 rfl ?_
    refine f_callVi (As := [vI a1]) (st := []) C dX11_lookAhead_6 ml_KilnBench_283 rfl (by decide) rfl rfl rfl (Nat.le_of_ble_eq_true rfl) h (fun r4 μ3 h => ?_)
    refine m_if_ne (tgt := 14) C dX11_lookAhead_9 (by decide) (fun c => ?_) (fun c => ?_)
    · have h := h.1 c
      refine m_aload_n C dX11_lookAhead_14 rfl ?_
      refine f_getO (t := 11) C dX11_lookAhead_15 fl_KilnBench_50 rfl (by decide) (by decide) (by decide) (by decide) ?_
      refine m_aload_n C dX11_lookAhead_18 rfl ?_
      refine f_getO (t := 10) C dX11_lookAhead_19 fl_KilnBench_46 rfl (by decide) (by decide) (by decide) (by decide) ?_
      refine f_callVv (As := [vR 10 0]) (st := []) C dX11_lookAhead_22 ml_KilnBench_249 rfl (by decide) rfl rfl rfl (Nat.le_of_ble_eq_true rfl) h (fun μ5 h => ?_)
      refine m_iconst C dX11_lookAhead_25 (by unfold in32; omega) ?_
      refine o_istore_n [some (vR 1 0), some (vI a1), some (vI 0)] C dX11_lookAhead_26 (by decide) rfl ?_
      exact h
    · have h := h.2 c
      refine m_iconst C dX11_lookAhead_12 (by unfold in32; omega) ?_
      exact f_zret C R rfl dX11_lookAhead_13 (by decide) h

set_option maxRecDepth 20000 in
theorem VX11_lookAhead_27 {G : m_G} {X : m_X} {d : Nat} {K : Int → m_M → Prop} (C : mC G X YX11_lookAhead (d + 1)) (R : r_i G X K) {μ : m_M} {a1 : Int} {l2 : Int}
    (h : ((a1 ≤ l2) → K 1 μ) ∧ ((¬ a1 ≤ l2) → c_i G d YX4_passWeek [vR 4 0, vR 11 0, vI 0] μ (fun r2 μ1 => ∀ x3 : Int, x3 = w32 (l2 + 1) → mW G X YX11_lookAhead μ1 27 [some (vR 1 0), some (vI a1), some (vI x3)] []))) :
    mW G X YX11_lookAhead μ 27 [some (vR 1 0), some (vI a1), some (vI l2)] [] := by
  refine m_iload_n C dX11_lookAhead_27 rfl ?_
  refine m_iload_n C dX11_lookAhead_28 rfl ?_
  refine m_icmp_ge (tgt := 51) C dX11_lookAhead_29 (by decide) (fun c => ?_) (fun c => ?_)
  · have h := h.1 c
    refine m_iconst C dX11_lookAhead_51 (by unfold in32; omega) ?_
    exact f_zret C R rfl dX11_lookAhead_52 (by decide) h
  · have h := h.2 c
    refine m_aload_n C dX11_lookAhead_32 rfl ?_
    refine f_getO (t := 4) C dX11_lookAhead_33 fl_KilnBench_39 rfl (by decide) (by decide) (by decide) (by decide) ?_
    refine m_aload_n C dX11_lookAhead_36 rfl ?_
    refine f_getO (t := 11) C dX11_lookAhead_37 fl_KilnBench_50 rfl (by decide) (by decide) (by decide) (by decide) ?_
    refine m_iconst C dX11_lookAhead_40 (by unfold in32; omega) ?_
    refine f_callVi (As := [vR 11 0, vI 0]) (st := []) C dX11_lookAhead_41 ml_KilnBench_253 rfl (by decide) rfl rfl rfl (Nat.le_of_ble_eq_true rfl) h (fun r2 μ1 h => ?_)
    refine m_pop C dX11_lookAhead_44 rfl ?_
    refine n_iinc (fun x3 => [some (vR 1 0), some (vI a1), some (vI x3)]) C dX11_lookAhead_45 rfl (by decide) (fun _ => rfl) (fun x3 ex3 => ?_)
    have h := h x3 ex3
    refine m_goto (tgt := 27) C dX11_lookAhead_48 (by decide) ?_
    exact h

set_option maxRecDepth 20000 in
theorem VX11_draw_0 {G : m_G} {X : m_X} {d : Nat} {K : Int → m_M → Prop} (C : mC G X YX11_draw (d + 1)) (R : r_i G X K) {μ : m_M} {a1 : Int}
    (h : ∀ μ1 : m_M, μ1 = m_up μ 1 0 13 (w32 (l_and (w64 ((w64 (1103515245 * (μ 1 0 13))) + 12345)) 2147483647)) → ((a1 ≤ 0) → K 0 μ1) ∧ ((¬ a1 ≤ 0) → a1 ≠ 0 ∧ K ((w32 ((μ1 1 0 13).tdiv 64)).tmod a1) μ1)) :
    mW G X YX11_draw μ 0 [some (vR 1 0), some (vI a1)] [] := by
  refine m_aload_n C dX11_draw_0 rfl ?_
  refine m_ldc2 (x := 1103515245) C dX11_draw_1 lc_KilnBench_321 rfl ?_
  refine m_aload_n C dX11_draw_4 rfl ?_
  refine f_getI C dX11_draw_5 fl_KilnBench_87 rfl (by decide) (by decide) ?_
  refine m_i2l C dX11_draw_8 ?_
  refine m_lmul C dX11_draw_9 ?_
  refine m_ldc2 (x := 12345) C dX11_draw_10 lc_KilnBench_323 rfl ?_
  refine m_ladd C dX11_draw_13 ?_
  refine m_ldc2 (x := 2147483647) C dX11_draw_14 lc_KilnBench_325 rfl ?_
  refine m_land C dX11_draw_17 ?_
  refine m_l2i C dX11_draw_18 ?_
  refine f_putI C dX11_draw_19 fl_KilnBench_87 rfl (by decide) (by decide) (by decide) ?_
  refine n_mem (fun μ1 eμ1 => ?_)
  have h := h μ1 eμ1
  refine m_iload_n C dX11_draw_22 rfl ?_
  refine m_if_le (tgt := 38) C dX11_draw_23 (by decide) (fun c => ?_) (fun c => ?_)
  · have h := h.1 c
    refine m_iconst C dX11_draw_38 (by unfold in32; omega) ?_
    exact f_iret C R rfl dX11_draw_39 h
  · have h := h.2 c
    refine m_aload_n C dX11_draw_26 rfl ?_
    refine f_getI C dX11_draw_27 fl_KilnBench_87 rfl (by decide) (by decide) ?_
    refine m_bipush C dX11_draw_30 (by omega) ?_
    refine m_idiv C dX11_draw_32 (by decide) ?_
    refine m_iload_n C dX11_draw_33 rfl ?_
    obtain ⟨hne, h⟩ := h
    refine m_irem C dX11_draw_34 hne ?_
    refine m_goto (tgt := 39) C dX11_draw_35 (by decide) ?_
    exact f_iret C R rfl dX11_draw_39 h

set_option maxRecDepth 20000 in
theorem VX11_crackingRows_0 {G : m_G} {X : m_X} {d : Nat} {K : Int → m_M → Prop} (C : mC G X YX11_crackingRows (d + 1)) (R : r_i G X K) {μ : m_M} {a1 : Int} {a2 : Int}
    (h : (0 ≤ a1 ∧ a1 < 8) ∧ c_i G d YX11_cracks [vR 1 0, vI a1, vI a2, vI (μ 10 4 a1.toNat)] μ (fun r2 μ1 => ∃ t4 : Nat, μ1 1 0 2 = 100 * (t4 : Int) ∧ m_cls t4 = 9 ∧ ∀ x5 : Int, x5 = w32 ((w32 ((w32 (100 - (μ1 t4 0 9))) * 3)) * r2) → mW G X YX11_crackingRows μ1 35 [some (vR 1 0), some (vI a1), some (vI a2), some (vI r2), some (vI x5), some (vI 1), none] [])) :
    mW G X YX11_crackingRows μ 0 [some (vR 1 0), some (vI a1), some (vI a2), none, none, none, none] [] := by
  refine m_aload_n C dX11_crackingRows_0 rfl ?_
  refine m_iload_n C dX11_crackingRows_1 rfl ?_
  refine m_iload_n C dX11_crackingRows_2 rfl ?_
  refine m_aload_n C dX11_crackingRows_3 rfl ?_
  refine f_getO (t := 10) C dX11_crackingRows_4 fl_KilnBench_46 rfl (by decide) (by decide) (by decide) (by decide) ?_
  refine f_getA C dX11_crackingRows_7 fl_KilnBench_182 rfl (by decide) (by decide) (by decide) (by decide) ?_
  refine m_iload_n C dX11_crackingRows_10 rfl ?_
  obtain ⟨hb, h⟩ := h
  refine f_iald C dX11_crackingRows_11 (m_arO (a := 0) (len := 8) rfl rfl) (by decide) hb ?_
  refine f_callVi (As := [vI a1, vI a2, vI (μ 10 4 a1.toNat)]) (st := []) C dX11_crackingRows_12 ml_KilnBench_327 rfl (by decide) rfl rfl rfl (Nat.le_of_ble_eq_true rfl) h (fun r2 μ1 h => ?_)
  refine o_istore_n [some (vR 1 0), some (vI a1), some (vI a2), some (vI r2), none, none, none] C dX11_crackingRows_15 (by decide) rfl ?_
  refine m_bipush C dX11_crackingRows_16 (by omega) ?_
  refine m_aload_n C dX11_crackingRows_18 rfl ?_
  obtain ⟨t4, hx_t4, hc_t4, h⟩ := h
  refine f_getR (t := t4) (w := 0) C dX11_crackingRows_19 fl_KilnBench_20 rfl (by decide) (by decide) (by rw [hx_t4]; omega) (by decide) (m_cls0 hc_t4 (by decide)) ?_
  refine f_getI C dX11_crackingRows_22 fl_KilnBench_292 hc_t4 (by decide) (by decide) ?_
  refine m_isub C dX11_crackingRows_25 ?_
  refine m_iconst C dX11_crackingRows_26 (by unfold in32; omega) ?_
  refine m_imul C dX11_crackingRows_27 ?_
  refine m_iload_n C dX11_crackingRows_28 rfl ?_
  refine m_imul C dX11_crackingRows_29 ?_
  refine n_istore (fun x5 => [some (vR 1 0), some (vI a1), some (vI a2), some (vI r2), some (vI x5), none, none]) C dX11_crackingRows_30 (by decide) (fun _ => rfl) (fun x5 ex5 => ?_)
  have h := h x5 ex5
  refine m_iconst C dX11_crackingRows_32 (by unfold in32; omega) ?_
  refine o_istore [some (vR 1 0), some (vI a1), some (vI a2), some (vI r2), some (vI x5), some (vI 1), none] C dX11_crackingRows_33 (by decide) rfl ?_
  exact h

set_option maxRecDepth 20000 in
theorem VX11_crackingRows_35 {G : m_G} {X : m_X} {d : Nat} {K : Int → m_M → Prop} (C : mC G X YX11_crackingRows (d + 1)) (R : r_i G X K) {μ : m_M} {a1 : Int} {a2 : Int} {l3 : Int} {l4 : Int} {l5 : Int}
    (h : ((3 < l5) → K l4 μ) ∧ ((¬ 3 < l5) → ∀ x1 : Int, x1 = (if w32 (a2 + l5) < 20 then w32 (a2 + l5) else 20) → ∃ t2 : Nat, μ 1 0 2 = 100 * (t2 : Int) ∧ m_cls t2 = 9 ∧ (0 ≤ a1 ∧ a1 < 8) ∧ c_i G d YX11_cracks [vR 1 0, vI a1, vI x1, vI (μ 10 4 a1.toNat)] μ (fun r4 μ3 => ∀ x5 : Int, x5 = w32 (l4 + (w32 ((μ t2 0 9) * r4))) → ∀ x6 : Int, x6 = w32 (l5 + 1) → mW G X YX11_crackingRows μ3 35 [some (vR 1 0), some (vI a1), some (vI a2), some (vI l3), some (vI x5), some (vI x6), none] []))) :
    mW G X YX11_crackingRows μ 35 [some (vR 1 0), some (vI a1), some (vI a2), some (vI l3), some (vI l4), some (vI l5), none] [] := by
  refine m_iload C dX11_crackingRows_35 rfl ?_
  refine m_iconst C dX11_crackingRows_37 (by unfold in32; omega) ?_
  refine m_icmp_gt (tgt := 87) C dX11_crackingRows_38 (by decide) (fun c => ?_) (fun c => ?_)
  · have h := h.1 c
    refine m_iload C dX11_crackingRows_87 rfl ?_
    exact f_iret C R rfl dX11_crackingRows_89 h
  · have h := h.2 c
    refine m_bipush C dX11_crackingRows_41 (by omega) ?_
    refine m_iload_n C dX11_crackingRows_43 rfl ?_
    refine m_iload C dX11_crackingRows_44 rfl ?_
    refine m_iadd C dX11_crackingRows_46 ?_
    refine m_mmin C dX11_crackingRows_47 mi_KilnBench_331 mb_mmins mb_ini mb_mmin (Nat.le_of_ble_eq_true rfl) (Nat.le_refl _) (Nat.le_refl _) ?_
    refine n_istore (fun x1 => [some (vR 1 0), some (vI a1), some (vI a2), some (vI l3), some (vI l4), some (vI l5), some (vI x1)]) C dX11_crackingRows_50 (by decide) (fun _ => rfl) (fun x1 ex1 => ?_)
    have h := h x1 ex1
    refine m_iload C dX11_crackingRows_52 rfl ?_
    refine m_aload_n C dX11_crackingRows_54 rfl ?_
    obtain ⟨t2, hx_t2, hc_t2, h⟩ := h
    refine f_getR (t := t2) (w := 0) C dX11_crackingRows_55 fl_KilnBench_20 rfl (by decide) (by decide) (by rw [hx_t2]; omega) (by decide) (m_cls0 hc_t2 (by decide)) ?_
    refine f_getI C dX11_crackingRows_58 fl_KilnBench_292 hc_t2 (by decide) (by decide) ?_
    refine m_aload_n C dX11_crackingRows_61 rfl ?_
    refine m_iload_n C dX11_crackingRows_62 rfl ?_
    refine m_iload C dX11_crackingRows_63 rfl ?_
    refine m_aload_n C dX11_crackingRows_65 rfl ?_
    refine f_getO (t := 10) C dX11_crackingRows_66 fl_KilnBench_46 rfl (by decide) (by decide) (by decide) (by decide) ?_
    refine f_getA C dX11_crackingRows_69 fl_KilnBench_182 rfl (by decide) (by decide) (by decide) (by decide) ?_
    refine m_iload_n C dX11_crackingRows_72 rfl ?_
    obtain ⟨hb, h⟩ := h
    refine f_iald C dX11_crackingRows_73 (m_arO (a := 0) (len := 8) rfl rfl) (by decide) hb ?_
    refine f_callVi (As := [vI a1, vI x1, vI (μ 10 4 a1.toNat)]) (st := [vI (μ t2 0 9), vI l4]) C dX11_crackingRows_74 ml_KilnBench_327 rfl (by decide) rfl rfl rfl (Nat.le_of_ble_eq_true rfl) h (fun r4 μ3 h => ?_)
    refine m_imul C dX11_crackingRows_77 ?_
    refine m_iadd C dX11_crackingRows_78 ?_
    refine n_istore (fun x5 => [some (vR 1 0), some (vI a1), some (vI a2), some (vI l3), some (vI x5), some (vI l5), some (vI x1)]) C dX11_crackingRows_79 (by decide) (fun _ => rfl) (fun x5 ex5 => ?_)
    have h := h x5 ex5
    refine n_iinc (fun x6 => [some (vR 1 0), some (vI a1), some (vI a2), some (vI l3), some (vI x5), some (vI x6), some (vI x1)]) C dX11_crackingRows_81 rfl (by decide) (fun _ => rfl) (fun x6 ex6 => ?_)
    have h := h x6 ex6
    refine m_goto (tgt := 35) C dX11_crackingRows_84 (by decide) ?_
    exact n_weak (le_same (le_same (le_same (le_same (le_same (le_same (le_none le_nil))))))) h

