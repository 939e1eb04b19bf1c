set_option maxRecDepth 20000 in
theorem VX1_forget_0 {G : m_G} {X : m_X} {d : Nat} {K : m_M → Prop} (C : mC G X YX1_forget (d + 1)) (R : r_v G X K) {μ : m_M}
    (h : ∀ μ1 : m_M, μ1 = m_up μ 7 0 3 (-1) → K μ1) :
    mW G X YX1_forget μ 0 [some (vR 7 0)] [] := by
  refine m_aload_n C dX1_forget_0 rfl ?_
  refine m_iconst C dX1_forget_1 (by unfold in32; omega) ?_
  refine f_putI C dX1_forget_2 fl_KilnBench_BestSearch_22 rfl (by decide) (by decide) (by decide) ?_
  refine n_mem (fun μ1 eμ1 => ?_)
  have h := h μ1 eμ1
  exact f_vret C R rfl dX1_forget_5 h

set_option maxRecDepth 20000 in
theorem VX1_find_0 {G : m_G} {X : m_X} {d : Nat} {K : m_M → Prop} (C : mC G X YX1_find (d + 1)) (R : r_v G X K) {μ : m_M} {a1 : Nat} {a2 : Int} (hc_a1 : m_cls a1 = 0)
    (h : ((¬ (μ 7 0 3) = a2) → ∀ μ1 : m_M, μ1 = m_up μ 7 0 3 a2 → ∀ μ2 : m_M, μ2 = m_up μ1 7 0 5 (μ1 a1 0 0) → ∃ t3 : Nat, μ2 4 0 0 = 100 * (t3 : Int) ∧ m_cls t3 = 9 ∧ (0 ≤ a2 ∧ a2 < 3) ∧ ∀ μ4 : m_M, μ4 = m_up μ2 7 0 6 (μ2 t3 6 a2.toNat) → ∀ μ5 : m_M, μ5 = m_up μ4 7 0 0 (-1) → ∀ μ6 : m_M, μ6 = m_up μ5 7 0 1 0 → mW G X YX1_find μ6 53 [some (vR 7 0), some (vR a1 0), some (vI a2), some (vI 0), some (vI 0)] []) ∧ ((μ 7 0 3 = a2) → K μ)) :
    mW G X YX1_find μ 0 [some (vR 7 0), some (vR a1 0), some (vI a2), none, none] [] := by
  refine m_aload_n C dX1_find_0 rfl ?_
  refine f_getI C dX1_find_1 fl_KilnBench_BestSearch_22 rfl (by decide) (by decide) ?_
  refine m_iload_n C dX1_find_4 rfl ?_
  refine m_icmp_ne (tgt := 9) C dX1_find_5 (by decide) (fun c => ?_) (fun c => ?_)
  · have h := h.1 c
    refine m_aload_n C dX1_find_9 rfl ?_
    refine m_iload_n C dX1_find_10 rfl ?_
    refine f_putI C dX1_find_11 fl_KilnBench_BestSearch_22 rfl (by decide) (by decide) (by decide) ?_
    refine n_mem (fun μ1 eμ1 => ?_)
    have h := h μ1 eμ1
    refine m_aload_n C dX1_find_14 rfl ?_
    refine m_aload_n C dX1_find_15 rfl ?_
    refine f_getI C dX1_find_16 fl_KilnBench_BestSearch_54 hc_a1 (by decide) (by decide) ?_
    refine f_putI C dX1_find_19 fl_KilnBench_BestSearch_25 rfl (by decide) (by decide) (by decide) ?_
    refine n_mem (fun μ2 eμ2 => ?_)
    have h := h μ2 eμ2
    refine m_aload_n C dX1_find_22 rfl ?_
    refine m_aload_n C dX1_find_23 rfl ?_
    refine f_getO (t := 4) C dX1_find_24 fl_KilnBench_BestSearch_50 rfl (by decide) (by decide) (by decide) (by decide) ?_
    obtain ⟨t3, hx_t3, hc_t3, h⟩ := h
    refine f_getR (t := t3) (w := 0) C dX1_find_27 fl_KilnBench_BestSearch_57 rfl (by decide) (by decide) (by rw [hx_t3]; omega) (by decide) (m_cls0 hc_t3 (by decide)) ?_
    refine f_getA C dX1_find_30 fl_KilnBench_BestSearch_63 hc_t3 (by decide) (by decide) (by decide) (by decide) ?_
    refine m_iload_n C dX1_find_33 rfl ?_
    obtain ⟨hb, h⟩ := h
    refine f_iald C dX1_find_34 (m_arO (a := 0) (len := 3) hc_t3 rfl) (by decide) hb ?_
    refine f_putI C dX1_find_35 fl_KilnBench_BestSearch_28 rfl (by decide) (by decide) (by decide) ?_
    refine n_mem (fun μ4 eμ4 => ?_)
    have h := h μ4 eμ4
    refine m_aload_n C dX1_find_38 rfl ?_
    refine m_iconst C dX1_find_39 (by unfold in32; omega) ?_
    refine f_putI C dX1_find_40 fl_KilnBench_BestSearch_9 rfl (by decide) (by decide) (by decide) ?_
    refine n_mem (fun μ5 eμ5 => ?_)
    have h := h μ5 eμ5
    refine m_aload_n C dX1_find_43 rfl ?_
    refine m_iconst C dX1_find_44 (by unfold in32; omega) ?_
    refine f_putI C dX1_find_45 fl_KilnBench_BestSearch_15 rfl (by decide) (by decide) (by decide) ?_
    refine n_mem (fun μ6 eμ6 => ?_)
    have h := h μ6 eμ6
    refine m_iconst C dX1_find_48 (by unfold in32; omega) ?_
    refine o_istore_n [some (vR 7 0), some (vR a1 0), some (vI a2), some (vI 0), none] C dX1_find_49 (by decide) rfl ?_
    refine m_iconst C dX1_find_50 (by unfold in32; omega) ?_
    refine o_istore [some (vR 7 0), some (vR a1 0), some (vI a2), some (vI 0), some (vI 0)] C dX1_find_51 (by decide) rfl ?_
    exact h
  · have h := h.2 c
    exact f_vret C R rfl dX1_find_8 h

set_option maxRecDepth 20000 in
theorem VX1_find_53 {G : m_G} {X : m_X} {d : Nat} {K : m_M → Prop} (C : mC G X YX1_find (d + 1)) (R : r_v G X K) {μ : m_M} {a1 : Nat} {a2 : Int} {l3 : Int} {l4 : Int} (hc_a1 : m_cls a1 = 0)
    (h : ((8 ≤ l4) → mW G X YX1_find μ 92 [some (vR 7 0), some (vR a1 0), some (vI a2), some (vI l3), some (vI 20)] []) ∧ ((¬ 8 ≤ l4) → (0 ≤ l4 ∧ l4 < 8) ∧ ((¬ (μ a1 3 l4.toNat) = a2) → ∀ x2 : Int, x2 = i_or l3 0 → ∀ x3 : Int, x3 = w32 (l4 + 1) → mW G X YX1_find μ 53 [some (vR 7 0), some (vR a1 0), some (vI a2), some (vI x2), some (vI x3)] []) ∧ ((μ a1 3 l4.toNat = a2) → ∀ x4 : Int, x4 = i_or l3 (i_shl 1 l4) → ∀ x5 : Int, x5 = w32 (l4 + 1) → mW G X YX1_find μ 53 [some (vR 7 0), some (vR a1 0), some (vI a2), some (vI x4), some (vI x5)] []))) :
    mW G X YX1_find μ 53 [some (vR 7 0), some (vR a1 0), some (vI a2), some (vI l3), some (vI l4)] [] := by
  refine m_iload C dX1_find_53 rfl ?_
  refine m_bipush C dX1_find_55 (by omega) ?_
  refine m_icmp_ge (tgt := 88) C dX1_find_57 (by decide) (fun c => ?_) (fun c => ?_)
  · have h := h.1 c
    refine m_bipush C dX1_find_88 (by omega) ?_
    refine o_istore [some (vR 7 0), some (vR a1 0), some (vI a2), some (vI l3), some (vI 20)] C dX1_find_90 (by decide) rfl ?_
    exact h
  · have h := h.2 c
    refine m_iload_n C dX1_find_60 rfl ?_
    refine m_aload_n C dX1_find_61 rfl ?_
    refine f_getA C dX1_find_62 fl_KilnBench_BestSearch_68 hc_a1 (by decide) (by decide) (by decide) (by decide) ?_
    refine m_iload C dX1_find_65 rfl ?_
    obtain ⟨hb, h⟩ := h
    refine f_iald C dX1_find_67 (m_arO (a := 0) (len := 8) hc_a1 rfl) (by decide) hb ?_
    refine m_iload_n C dX1_find_68 rfl ?_
    refine m_icmp_ne (tgt := 79) C dX1_find_69 (by decide) (fun c => ?_) (fun c => ?_)
    · have h := h.1 c
      refine m_iconst C dX1_find_79 (by unfold in32; omega) ?_
      refine m_ior C dX1_find_80 ?_
      refine n_istore_n (fun x2 => [some (vR 7 0), some (vR a1 0), some (vI a2), some (vI x2), some (vI l4)]) C dX1_find_81 (by decide) (fun _ => rfl) (fun x2 ex2 => ?_)
      have h := h x2 ex2
      refine n_iinc (fun x3 => [some (vR 7 0), some (vR a1 0), some (vI a2), some (vI x2), some (vI x3)]) C dX1_find_82 rfl (by decide) (fun _ => rfl) (fun x3 ex3 => ?_)
      have h := h x3 ex3
      refine m_goto (tgt := 53) C dX1_find_85 (by decide) ?_
      exact h
    · have h := h.2 c
      refine m_iconst C dX1_find_72 (by unfold in32; omega) ?_
      refine m_iload C dX1_find_73 rfl ?_
      refine m_ishl C dX1_find_75 ?_
      refine m_goto (tgt := 80) C dX1_find_76 (by decide) ?_
      refine m_ior C dX1_find_80 ?_
      refine n_istore_n (fun x4 => [some (vR 7 0), some (vR a1 0), some (vI a2), some (vI x4), some (vI l4)]) C dX1_find_81 (by decide) (fun _ => rfl) (fun x4 ex4 => ?_)
      have h := h x4 ex4
      refine n_iinc (fun x5 => [some (vR 7 0), some (vR a1 0), some (vI a2), some (vI x4), some (vI x5)]) C dX1_find_82 rfl (by decide) (fun _ => rfl) (fun x5 ex5 => ?_)
      have h := h x5 ex5
      refine m_goto (tgt := 53) C dX1_find_85 (by decide) ?_
      exact h

set_option maxRecDepth 20000 in
theorem VX1_find_92 {G : m_G} {X : m_X} {d : Nat} {K : m_M → Prop} (C : mC G X YX1_find (d + 1)) (R : r_v G X K) {μ : m_M} {a1 : Nat} {a2 : Int} {l3 : Int} {l4 : Int} (hc_a1 : m_cls a1 = 0)
    (h : ((l4 < 0) → K μ) ∧ ((¬ l4 < 0) → ((l3 = 0) → K μ) ∧ ((¬ l3 = 0) → ∀ μ1 : m_M, μ1 = m_up μ 7 0 7 l4 → c_v G d YX1_tryHeat [vR 7 0, vI l3] μ1 (fun μ2 => ∀ x3 : Int, x3 = w32 (l4 + (-1)) → mW G X YX1_find μ2 92 [some (vR 7 0), some (vR a1 0), some (vI a2), some (vI l3), some (vI x3)] [])))) :
    mW G X YX1_find μ 92 [some (vR 7 0), some (vR a1 0), some (vI a2), some (vI l3), some (vI l4)] [] := by
  refine m_iload C dX1_find_92 rfl ?_
  refine m_if_lt (tgt := 118) C dX1_find_94 (by decide) (fun c => ?_) (fun c => ?_)
  · have h := h.1 c
    exact f_vret C R rfl dX1_find_118 h
  · have h := h.2 c
    refine m_iload_n C dX1_find_97 rfl ?_
    refine m_if_eq (tgt := 118) C dX1_find_98 (by decide) (fun c => ?_) (fun c => ?_)
    · have h := h.1 c
      exact f_vret C R rfl dX1_find_118 h
    · have h := h.2 c
      refine m_aload_n C dX1_find_101 rfl ?_
      refine m_iload C dX1_find_102 rfl ?_
      refine f_putI C dX1_find_104 fl_KilnBench_BestSearch_31 rfl (by decide) (by decide) (by decide) ?_
      refine n_mem (fun μ1 eμ1 => ?_)
      have h := h μ1 eμ1
      refine m_aload_n C dX1_find_107 rfl ?_
      refine m_iload_n C dX1_find_108 rfl ?_
      refine f_callVv (As := [vI l3]) (st := []) C dX1_find_109 ml_KilnBench_BestSearch_71 rfl (by decide) rfl rfl rfl (Nat.le_of_ble_eq_true rfl) h (fun μ2 h => ?_)
      refine n_iinc (fun x3 => [some (vR 7 0), some (vR a1 0), some (vI a2), some (vI l3), some (vI x3)]) C dX1_find_112 rfl (by decide) (fun _ => rfl) (fun x3 ex3 => ?_)
      have h := h x3 ex3
      refine m_goto (tgt := 92) C dX1_find_115 (by decide) ?_
      exact h

set_option maxRecDepth 20000 in
theorem VX1_tryHeat_0 {G : m_G} {X : m_X} {d : Nat} {K : m_M → Prop} (C : mC G X YX1_tryHeat (d + 1)) (R : r_v G X K) {μ : m_M} {a1 : Int}
    (h : mW G X YX1_tryHeat μ 4 [some (vR 7 0), some (vI a1), some (vI 0), some (vI 0)] []) :
    mW G X YX1_tryHeat μ 0 [some (vR 7 0), some (vI a1), none, none] [] := by
  refine m_iconst C dX1_tryHeat_0 (by unfold in32; omega) ?_
  refine o_istore_n [some (vR 7 0), some (vI a1), some (vI 0), none] C dX1_tryHeat_1 (by decide) rfl ?_
  refine m_iconst C dX1_tryHeat_2 (by unfold in32; omega) ?_
  refine o_istore_n [some (vR 7 0), some (vI a1), some (vI 0), some (vI 0)] C dX1_tryHeat_3 (by decide) rfl ?_
  exact h

set_option maxRecDepth 20000 in
theorem VX1_tryHeat_4 {G : m_G} {X : m_X} {d : Nat} {K : m_M → Prop} (C : mC G X YX1_tryHeat (d + 1)) (R : r_v G X K) {μ : m_M} {a1 : Int} {l2 : Int} {l3 : Int}
    (h : ((8 ≤ l3) → ∀ μ1 : m_M, μ1 = m_up μ 7 0 8 (w32 ((μ 7 0 1) - 1)) → ((l2 ≤ μ1 7 0 8) → K μ1) ∧ ((¬ l2 ≤ μ1 7 0 8) → c_v G d YJ7_fill_031fb [vR 7 13, vI 0] μ1 (fun μ2 => c_v G d YX1_fillFrom [vR 7 0, vI 0, vI a1, vI l2] μ2 (fun μ3 => K μ3)))) ∧ ((¬ 8 ≤ l3) → ((¬ (i_and (i_shr a1 l3) 1) = 1) → ∀ x4 : Int, x4 = w32 (l3 + 1) → mW G X YX1_tryHeat μ 4 [some (vR 7 0), some (vI a1), some (vI l2), some (vI x4)] []) ∧ ((i_and (i_shr a1 l3) 1 = 1) → c_v G d YX1_ringEverywhere [vR 7 0, vI l3] μ (fun μ5 => (0 ≤ l3 ∧ l3 < 8) ∧ ((¬ (μ5 7 12 l3.toNat) = (-1)) → (0 ≤ l3 ∧ l3 < 8) ∧ ∀ x6 : Int, x6 = w32 (l2 + (μ5 7 12 l3.toNat)) → ∀ x7 : Int, x7 = w32 (l3 + 1) → mW G X YX1_tryHeat μ5 4 [some (vR 7 0), some (vI a1), some (vI x6), some (vI x7)] []) ∧ ((μ5 7 12 l3.toNat = (-1)) → K μ5))))) :
    mW G X YX1_tryHeat μ 4 [some (vR 7 0), some (vI a1), some (vI l2), some (vI l3)] [] := by
  refine m_iload_n C dX1_tryHeat_4 rfl ?_
  refine m_bipush C dX1_tryHeat_5 (by omega) ?_
  refine m_icmp_ge (tgt := 50) C dX1_tryHeat_7 (by decide) (fun c => ?_) (fun c => ?_)
  · have h := h.1 c
    refine m_aload_n C dX1_tryHeat_50 rfl ?_
    refine m_aload_n C dX1_tryHeat_51 rfl ?_
    refine f_getI C dX1_tryHeat_52 fl_KilnBench_BestSearch_15 rfl (by decide) (by decide) ?_
    refine m_iconst C dX1_tryHeat_55 (by unfold in32; omega) ?_
    refine m_isub C dX1_tryHeat_56 ?_
    refine f_putI C dX1_tryHeat_57 fl_KilnBench_BestSearch_34 rfl (by decide) (by decide) (by decide) ?_
    refine n_mem (fun μ1 eμ1 => ?_)
    have h := h μ1 eμ1
    refine m_iload_n C dX1_tryHeat_60 rfl ?_
    refine m_aload_n C dX1_tryHeat_61 rfl ?_
    refine f_getI C dX1_tryHeat_62 fl_KilnBench_BestSearch_34 rfl (by decide) (by decide) ?_
    refine m_icmp_le (tgt := 83) C dX1_tryHeat_65 (by decide) (fun c => ?_) (fun c => ?_)
    · have h := h.1 c
      exact f_vret C R rfl dX1_tryHeat_83 h
    · have h := h.2 c
      refine m_aload_n C dX1_tryHeat_68 rfl ?_
      refine f_getA C dX1_tryHeat_69 fl_KilnBench_BestSearch_46 rfl (by decide) (by decide) (by decide) (by decide) ?_
      refine m_iconst C dX1_tryHeat_72 (by unfold in32; omega) ?_
      refine f_callSv (As := [vR 7 13, vI 0]) (st := []) C dX1_tryHeat_73 ml_KilnBench_BestSearch_78 rfl rfl (Nat.le_of_ble_eq_true rfl) h (fun μ2 h => ?_)
      refine m_aload_n C dX1_tryHeat_76 rfl ?_
      refine m_iconst C dX1_tryHeat_77 (by unfold in32; omega) ?_
      refine m_iload_n C dX1_tryHeat_78 rfl ?_
      refine m_iload_n C dX1_tryHeat_79 rfl ?_
      refine f_callVv (As := [vI 0, vI a1, vI l2]) (st := []) C dX1_tryHeat_80 ml_KilnBench_BestSearch_84 rfl (by decide) rfl rfl rfl (Nat.le_of_ble_eq_true rfl) h (fun μ3 h => ?_)
      exact f_vret C R rfl dX1_tryHeat_83 h
  · have h := h.2 c
    refine m_iload_n C dX1_tryHeat_10 rfl ?_
    refine m_iload_n C dX1_tryHeat_11 rfl ?_
    refine m_ishr C dX1_tryHeat_12 ?_
    refine m_iconst C dX1_tryHeat_13 (by unfold in32; omega) ?_
    refine m_iand C dX1_tryHeat_14 ?_
    refine m_iconst C dX1_tryHeat_15 (by unfold in32; omega) ?_
    refine m_icmp_ne (tgt := 44) C dX1_tryHeat_16 (by decide) (fun c => ?_) (fun c => ?_)
    · have h := h.1 c
      refine n_iinc (fun x4 => [some (vR 7 0), some (vI a1), some (vI l2), some (vI x4)]) C dX1_tryHeat_44 rfl (by decide) (fun _ => rfl) (fun x4 ex4 => ?_)
      have h := h x4 ex4
      refine m_goto (tgt := 4) C dX1_tryHeat_47 (by decide) ?_
      exact h
    · have h := h.2 c
      refine m_aload_n C dX1_tryHeat_19 rfl ?_
      refine m_iload_n C dX1_tryHeat_20 rfl ?_
      refine f_callVv (As := [vI l3]) (st := []) C dX1_tryHeat_21 ml_KilnBench_BestSearch_75 rfl (by decide) rfl rfl rfl (Nat.le_of_ble_eq_true rfl) h (fun μ5 h => ?_)
      refine m_aload_n C dX1_tryHeat_24 rfl ?_
      refine f_getA C dX1_tryHeat_25 fl_KilnBench_BestSearch_43 rfl (by decide) (by decide) (by decide) (by decide) ?_
      refine m_iload_n C dX1_tryHeat_28 rfl ?_
      obtain ⟨hb, h⟩ := h
      refine f_iald C dX1_tryHeat_29 (m_arO (a := 0) (len := 8) rfl rfl) (by decide) hb ?_
      refine m_iconst C dX1_tryHeat_30 (by unfold in32; omega) ?_
      refine m_icmp_ne (tgt := 35) C dX1_tryHeat_31 (by decide) (fun c => ?_) (fun c => ?_)
      · have h := h.1 c
        refine m_iload_n C dX1_tryHeat_35 rfl ?_
        refine m_aload_n C dX1_tryHeat_36 rfl ?_
        refine f_getA C dX1_tryHeat_37 fl_KilnBench_BestSearch_43 rfl (by decide) (by decide) (by decide) (by decide) ?_
        refine m_iload_n C dX1_tryHeat_40 rfl ?_
        obtain ⟨hb, h⟩ := h
        refine f_iald C dX1_tryHeat_41 (m_arO (a := 0) (len := 8) rfl rfl) (by decide) hb ?_
        refine m_iadd C dX1_tryHeat_42 ?_
        refine n_istore_n (fun x6 => [some (vR 7 0), some (vI a1), some (vI x6), some (vI l3)]) C dX1_tryHeat_43 (by decide) (fun _ => rfl) (fun x6 ex6 => ?_)
        have h := h x6 ex6
        refine n_iinc (fun x7 => [some (vR 7 0), some (vI a1), some (vI x6), some (vI x7)]) C dX1_tryHeat_44 rfl (by decide) (fun _ => rfl) (fun x7 ex7 => ?_)
        have h := h x7 ex7
        refine m_goto (tgt := 4) C dX1_tryHeat_47 (by decide) ?_
        exact h
      · have h := h.2 c
        exact f_vret C R rfl dX1_tryHeat_34 h

set_option maxRecDepth 20000 in
theorem VX1_ringEverywhere_0 {G : m_G} {X : m_X} {d : Nat} {K : m_M → Prop} (C : mC G X YX1_ringEverywhere (d + 1)) (R : r_v G X K) {μ : m_M} {a1 : Int}
    (h : (0 ≤ a1 ∧ a1 < 8) ∧ ∀ μ1 : m_M, μ1 = m_up μ 7 12 a1.toNat (-1) → mW G X YX1_ringEverywhere μ1 9 [some (vR 7 0), some (vI a1), some (vI 0), none] []) :
    mW G X YX1_ringEverywhere μ 0 [some (vR 7 0), some (vI a1), none, none] [] := by
  refine m_aload_n C dX1_ringEverywhere_0 rfl ?_
  refine f_getA C dX1_ringEverywhere_1 fl_KilnBench_BestSearch_43 rfl (by decide) (by decide) (by decide) (by decide) ?_
  refine m_iload_n C dX1_ringEverywhere_4 rfl ?_
  refine m_iconst C dX1_ringEverywhere_5 (by unfold in32; omega) ?_
  obtain ⟨hb, h⟩ := h
  refine f_iast C dX1_ringEverywhere_6 (m_arO (a := 0) (len := 8) rfl rfl) (by decide) hb ?_
  refine n_mem (fun μ1 eμ1 => ?_)
  have h := h μ1 eμ1
  refine m_iconst C dX1_ringEverywhere_7 (by unfold in32; omega) ?_
  refine o_istore_n [some (vR 7 0), some (vI a1), some (vI 0), none] C dX1_ringEverywhere_8 (by decide) rfl ?_
  exact h

set_option maxRecDepth 20000 in
theorem VX1_ringEverywhere_9 {G : m_G} {X : m_X} {d : Nat} {K : m_M → Prop} (C : mC G X YX1_ringEverywhere (d + 1)) (R : r_v G X K) {μ : m_M} {a1 : Int} {l2 : Int}
    (h : ((μ 7 0 6 ≤ l2) → K μ) ∧ ((¬ μ 7 0 6 ≤ l2) → c_i G d YX4_temperOf [vR 4 0, vI a1, vI (μ 7 0 7), vI l2, vI (μ 7 0 5)] μ (fun r2 μ1 => c_i G d YX4_isCracked [vR 4 0, vI a1, vI (μ1 7 0 7), vI l2, vI (μ1 7 0 5), vI r2] μ1 (fun r5 μ4 => ((r5 = 0) → mW G X YX1_ringEverywhere μ4 58 [some (vR 7 0), some (vI a1), some (vI l2), some (vI r2)] []) ∧ ((¬ r5 = 0) → mW G X YX1_ringEverywhere μ4 58 [some (vR 7 0), some (vI a1), some (vI l2), some (vI (-1))] []))))) :
    mW G X YX1_ringEverywhere μ 9 [some (vR 7 0), some (vI a1), some (vI l2), none] [] := by
  refine m_iload_n C dX1_ringEverywhere_9 rfl ?_
  refine m_aload_n C dX1_ringEverywhere_10 rfl ?_
  refine f_getI C dX1_ringEverywhere_11 fl_KilnBench_BestSearch_28 rfl (by decide) (by decide) ?_
  refine m_icmp_ge (tgt := 92) C dX1_ringEverywhere_14 (by decide) (fun c => ?_) (fun c => ?_)
  · have h := h.1 c
    exact f_vret C R rfl dX1_ringEverywhere_92 h
  · have h := h.2 c
    refine m_aload_n C dX1_ringEverywhere_17 rfl ?_
    refine f_getO (t := 4) C dX1_ringEverywhere_18 fl_KilnBench_BestSearch_50 rfl (by decide) (by decide) (by decide) (by decide) ?_
    refine m_iload_n C dX1_ringEverywhere_21 rfl ?_
    refine m_aload_n C dX1_ringEverywhere_22 rfl ?_
    refine f_getI C dX1_ringEverywhere_23 fl_KilnBench_BestSearch_31 rfl (by decide) (by decide) ?_
    refine m_iload_n C dX1_ringEverywhere_26 rfl ?_
    refine m_aload_n C dX1_ringEverywhere_27 rfl ?_
    refine f_getI C dX1_ringEverywhere_28 fl_KilnBench_BestSearch_25 rfl (by decide) (by decide) ?_
    refine f_callVi (As := [vI a1, vI (μ 7 0 7), vI l2, vI (μ 7 0 5)]) (st := []) C dX1_ringEverywhere_31 ml_KilnBench_BestSearch_88 rfl (by decide) rfl rfl rfl (Nat.le_of_ble_eq_true rfl) h (fun r2 μ1 h => ?_)
    refine o_istore_n [some (vR 7 0), some (vI a1), some (vI l2), some (vI r2)] C dX1_ringEverywhere_34 (by decide) rfl ?_
    refine m_aload_n C dX1_ringEverywhere_35 rfl ?_
    refine f_getO (t := 4) C dX1_ringEverywhere_36 fl_KilnBench_BestSearch_50 rfl (by decide) (by decide) (by decide) (by decide) ?_
    refine m_iload_n C dX1_ringEverywhere_39 rfl ?_
    refine m_aload_n C dX1_ringEverywhere_40 rfl ?_
    refine f_getI C dX1_ringEverywhere_41 fl_KilnBench_BestSearch_31 rfl (by decide) (by decide) ?_
    refine m_iload_n C dX1_ringEverywhere_44 rfl ?_
    refine m_aload_n C dX1_ringEverywhere_45 rfl ?_
    refine f_getI C dX1_ringEverywhere_46 fl_KilnBench_BestSearch_25 rfl (by decide) (by decide) ?_
    refine m_iload_n C dX1_ringEverywhere_49 rfl ?_
    refine f_callVi (As := [vI a1, vI (μ1 7 0 7), vI l2, vI (μ1 7 0 5), vI r2]) (st := []) C dX1_ringEverywhere_50 ml_KilnBench_BestSearch_92 rfl (by decide) rfl rfl rfl (Nat.le_of_ble_eq_true rfl) h (fun r5 μ4 h => ?_)
    refine m_if_eq (tgt := 58) C dX1_ringEverywhere_53 (by decide) (fun c => ?_) (fun c => ?_)
    · have h := h.1 c
      exact h
    · have h := h.2 c
      refine m_iconst C dX1_ringEverywhere_56 (by unfold in32; omega) ?_
      refine o_istore_n [some (vR 7 0), some (vI a1), some (vI l2), some (vI (-1))] C dX1_ringEverywhere_57 (by decide) rfl ?_
      exact h

set_option maxRecDepth 20000 in
theorem VX1_ringEverywhere_58 {G : m_G} {X : m_X} {d : Nat} {K : m_M → Prop} (C : mC G X YX1_ringEverywhere (d + 1)) (R : r_v G X K) {μ : m_M} {a1 : Int} {l2 : Int} {l3 : Int}
    (h : (0 ≤ w32 ((w32 (a1 * 6)) + l2) ∧ w32 ((w32 (a1 * 6)) + l2) < 48) ∧ ∀ μ1 : m_M, μ1 = m_up μ 7 11 (w32 ((w32 (a1 * 6)) + l2)).toNat l3 → (0 ≤ a1 ∧ a1 < 8) ∧ (0 ≤ a1 ∧ a1 < 8) ∧ ∀ μ2 : m_M, μ2 = m_up μ1 7 12 a1.toNat (if μ1 7 12 a1.toNat < l3 then l3 else μ1 7 12 a1.toNat) → ∀ x3 : Int, x3 = w32 (l2 + 1) → mW G X YX1_ringEverywhere μ2 9 [some (vR 7 0), some (vI a1), some (vI x3), none] []) :
    mW G X YX1_ringEverywhere μ 58 [some (vR 7 0), some (vI a1), some (vI l2), some (vI l3)] [] := by
  refine m_aload_n C dX1_ringEverywhere_58 rfl ?_
  refine f_getA C dX1_ringEverywhere_59 fl_KilnBench_BestSearch_40 rfl (by decide) (by decide) (by decide) (by decide) ?_
  refine m_iload_n C dX1_ringEverywhere_62 rfl ?_
  refine m_bipush C dX1_ringEverywhere_63 (by omega) ?_
  refine m_imul C dX1_ringEverywhere_65 ?_
  refine m_iload_n C dX1_ringEverywhere_66 rfl ?_
  refine m_iadd C dX1_ringEverywhere_67 ?_
  refine m_iload_n C dX1_ringEverywhere_68 rfl ?_
  obtain ⟨hb, h⟩ := h
  refine f_iast C dX1_ringEverywhere_69 (m_arO (a := 0) (len := 48) rfl rfl) (by decide) hb ?_
  refine n_mem (fun μ1 eμ1 => ?_)
  have h := h μ1 eμ1
  refine m_aload_n C dX1_ringEverywhere_70 rfl ?_
  refine f_getA C dX1_ringEverywhere_71 fl_KilnBench_BestSearch_43 rfl (by decide) (by decide) (by decide) (by decide) ?_
  refine m_iload_n C dX1_ringEverywhere_74 rfl ?_
  refine m_aload_n C dX1_ringEverywhere_75 rfl ?_
  refine f_getA C dX1_ringEverywhere_76 fl_KilnBench_BestSearch_43 rfl (by decide) (by decide) (by decide) (by decide) ?_
  refine m_iload_n C dX1_ringEverywhere_79 rfl ?_
  obtain ⟨hb, h⟩ := h
  refine f_iald C dX1_ringEverywhere_80 (m_arO (a := 0) (len := 8) rfl rfl) (by decide) hb ?_
  refine m_iload_n C dX1_ringEverywhere_81 rfl ?_
  refine m_mmax C dX1_ringEverywhere_82 mi_KilnBench_BestSearch_96 mb_mmaxs mb_ini mb_mmax (Nat.le_of_ble_eq_true rfl) (Nat.le_refl _) (Nat.le_refl _) ?_
  obtain ⟨hb, h⟩ := h
  refine f_iast C dX1_ringEverywhere_85 (m_arO (a := 0) (len := 8) rfl rfl) (by decide) hb ?_
  refine n_mem (fun μ2 eμ2 => ?_)
  have h := h μ2 eμ2
  refine n_iinc (fun x3 => [some (vR 7 0), some (vI a1), some (vI x3), some (vI l3)]) C dX1_ringEverywhere_86 rfl (by decide) (fun _ => rfl) (fun x3 ex3 => ?_)
  have h := h x3 ex3
  refine m_goto (tgt := 9) C dX1_ringEverywhere_89 (by decide) ?_
  exact n_weak (le_same (le_same (le_same (le_none le_nil)))) h

set_option maxRecDepth 20000 in
theorem VX1_fillFrom_0 {G : m_G} {X : m_X} {d : Nat} {K : m_M → Prop} (C : mC G X YX1_fillFrom (d + 1)) (R : r_v G X K) {μ : m_M} {a1 : Int} {a2 : Int} {a3 : Int}
    (h : ((a1 < μ 7 0 6) → c_i G d YJ6_bitCount_0f7a4 [vI a2] μ (fun r2 μ1 => ((w32 ((μ 7 0 6) - a1) ≤ r2) → mW G X YX1_fillFrom μ1 46 [some (vR 7 0), some (vI a1), some (vI a2), some (vI a3), some (vI 0), none, none] []) ∧ ((¬ w32 ((μ 7 0 6) - a1) ≤ r2) → (0 ≤ a1 ∧ a1 < 6) ∧ ∀ μ4 : m_M, μ4 = m_up μ1 7 10 a1.toNat (-1) → c_v G d YX1_fillFrom [vR 7 0, vI (w32 (a1 + 1)), vI a2, vI a3] μ4 (fun μ5 => mW G X YX1_fillFrom μ5 46 [some (vR 7 0), some (vI a1), some (vI a2), some (vI a3), some (vI 0), none, none] [])))) ∧ ((¬ a1 < μ 7 0 6) → c_v G d YX1_keepRow [vR 7 0, vI a3] μ (fun μ7 => K μ7))) :
    mW G X YX1_fillFrom μ 0 [some (vR 7 0), some (vI a1), some (vI a2), some (vI a3), none, none, none] [] := by
  refine m_iload_n C dX1_fillFrom_0 rfl ?_
  refine m_aload_n C dX1_fillFrom_1 rfl ?_
  refine f_getI C dX1_fillFrom_2 fl_KilnBench_BestSearch_28 rfl (by decide) (by decide) ?_
  refine m_icmp_lt (tgt := 14) C dX1_fillFrom_5 (by decide) (fun c => ?_) (fun c => ?_)
  · have h := h.1 c
    refine m_aload_n C dX1_fillFrom_14 rfl ?_
    refine f_getI C dX1_fillFrom_15 fl_KilnBench_BestSearch_28 rfl (by decide) (by decide) ?_
    refine m_iload_n C dX1_fillFrom_18 rfl ?_
    refine m_isub C dX1_fillFrom_19 ?_
    refine m_iload_n C dX1_fillFrom_20 rfl ?_
    refine f_callSi (As := [vI a2]) (st := [vI (w32 ((μ 7 0 6) - a1))]) C dX1_fillFrom_21 ml_KilnBench_BestSearch_105 rfl rfl (Nat.le_of_ble_eq_true rfl) h (fun r2 μ1 h => ?_)
    refine m_icmp_le (tgt := 43) C dX1_fillFrom_24 (by decide) (fun c => ?_) (fun c => ?_)
    · have h := h.1 c
      refine m_iconst C dX1_fillFrom_43 (by unfold in32; omega) ?_
      refine o_istore [some (vR 7 0), some (vI a1), some (vI a2), some (vI a3), some (vI 0), none, none] C dX1_fillFrom_44 (by decide) rfl ?_
      exact h
    · have h := h.2 c
      refine m_aload_n C dX1_fillFrom_27 rfl ?_
      refine f_getA C dX1_fillFrom_28 fl_KilnBench_BestSearch_37 rfl (by decide) (by decide) (by decide) (by decide) ?_
      refine m_iload_n C dX1_fillFrom_31 rfl ?_
      refine m_iconst C dX1_fillFrom_32 (by unfold in32; omega) ?_
      obtain ⟨hb, h⟩ := h
      refine f_iast C dX1_fillFrom_33 (m_arO (a := 0) (len := 6) rfl rfl) (by decide) hb ?_
      refine n_mem (fun μ4 eμ4 => ?_)
      have h := h μ4 eμ4
      refine m_aload_n C dX1_fillFrom_34 rfl ?_
      refine m_iload_n C dX1_fillFrom_35 rfl ?_
      refine m_iconst C dX1_fillFrom_36 (by unfold in32; omega) ?_
      refine m_iadd C dX1_fillFrom_37 ?_
      refine m_iload_n C dX1_fillFrom_38 rfl ?_
      refine m_iload_n C dX1_fillFrom_39 rfl ?_
      refine f_callVv (As := [vI (w32 (a1 + 1)), vI a2, vI a3]) (st := []) C dX1_fillFrom_40 ml_KilnBench_BestSearch_84 rfl (by decide) rfl rfl rfl (Nat.le_of_ble_eq_true rfl) h (fun μ5 h => ?_)
      refine m_iconst C dX1_fillFrom_43 (by unfold in32; omega) ?_
      refine o_istore [some (vR 7 0), some (vI a1), some (vI a2), some (vI a3), some (vI 0), none, none] C dX1_fillFrom_44 (by decide) rfl ?_
      exact h
  · have h := h.2 c
    refine m_aload_n C dX1_fillFrom_8 rfl ?_
    refine m_iload_n C dX1_fillFrom_9 rfl ?_
    refine f_callVv (As := [vI a3]) (st := []) C dX1_fillFrom_10 ml_KilnBench_BestSearch_102 rfl (by decide) rfl rfl rfl (Nat.le_of_ble_eq_true rfl) h (fun μ7 h => ?_)
    exact f_vret C R rfl dX1_fillFrom_13 h

set_option maxRecDepth 20000 in
theorem VX1_fillFrom_46 {G : m_G} {X : m_X} {d : Nat} {K : m_M → Prop} (C : mC G X YX1_fillFrom (d + 1)) (R : r_v G X K) {μ : m_M} {a1 : Int} {a2 : Int} {a3 : Int} {l4 : Int}
    (h : ((8 ≤ l4) → K μ) ∧ ((¬ 8 ≤ l4) → ((¬ (i_and (i_shr a2 l4) 1) = 1) → ∀ x1 : Int, x1 = w32 (l4 + 1) → mW G X YX1_fillFrom μ 46 [some (vR 7 0), some (vI a1), some (vI a2), some (vI a3), some (vI x1), none, none] []) ∧ ((i_and (i_shr a2 l4) 1 = 1) → (0 ≤ w32 ((w32 (l4 * 6)) + a1) ∧ w32 ((w32 (l4 * 6)) + a1) < 48) ∧ ∀ x2 : Int, x2 = μ 7 11 (w32 ((w32 (l4 * 6)) + a1)).toNat → (0 ≤ l4 ∧ l4 < 8) ∧ ∀ x3 : Int, x3 = w32 ((w32 (a3 - (μ 7 12 l4.toNat))) + x2) → ((x2 = (-1)) → ∀ x4 : Int, x4 = w32 (l4 + 1) → mW G X YX1_fillFrom μ 46 [some (vR 7 0), some (vI a1), some (vI a2), some (vI a3), some (vI x4), none, none] []) ∧ ((¬ x2 = (-1)) → ((x3 ≤ μ 7 0 8) → ∀ x5 : Int, x5 = w32 (l4 + 1) → mW G X YX1_fillFrom μ 46 [some (vR 7 0), some (vI a1), some (vI a2), some (vI a3), some (vI x5), none, none] []) ∧ ((¬ x3 ≤ μ 7 0 8) → c_i G d YX1_sticksToLeft [vR 7 0, vI l4, vI a1] μ (fun r7 μ6 => ((¬ r7 = 0) → ∀ x8 : Int, x8 = w32 (l4 + 1) → mW G X YX1_fillFrom μ6 46 [some (vR 7 0), some (vI a1), some (vI a2), some (vI a3), some (vI x8), none, none] []) ∧ ((r7 = 0) → (0 ≤ a1 ∧ a1 < 6) ∧ ∀ μ9 : m_M, μ9 = m_up μ6 7 10 a1.toNat l4 → c_v G d YX1_fillFrom [vR 7 0, vI (w32 (a1 + 1)), vI (i_and a2 (i_xor (i_shl 1 l4) (-1))), vI x3] μ9 (fun μ10 => ∀ x11 : Int, x11 = w32 (l4 + 1) → mW G X YX1_fillFrom μ10 46 [some (vR 7 0), some (vI a1), some (vI a2), some (vI a3), some (vI x11), none, none] [])))))))) :
    mW G X YX1_fillFrom μ 46 [some (vR 7 0), some (vI a1), some (vI a2), some (vI a3), some (vI l4), none, none] [] := by
  refine m_iload C dX1_fillFrom_46 rfl ?_
  refine m_bipush C dX1_fillFrom_48 (by omega) ?_
  refine m_icmp_ge (tgt := 147) C dX1_fillFrom_50 (by decide) (fun c => ?_) (fun c => ?_)
  · have h := h.1 c
    exact f_vret C R rfl dX1_fillFrom_147 h
  · have h := h.2 c
    refine m_iload_n C dX1_fillFrom_53 rfl ?_
    refine m_iload C dX1_fillFrom_54 rfl ?_
    refine m_ishr C dX1_fillFrom_56 ?_
    refine m_iconst C dX1_fillFrom_57 (by unfold in32; omega) ?_
    refine m_iand C dX1_fillFrom_58 ?_
    refine m_iconst C dX1_fillFrom_59 (by unfold in32; omega) ?_
    refine m_icmp_ne (tgt := 141) C dX1_fillFrom_60 (by decide) (fun c => ?_) (fun c => ?_)
    · have h := h.1 c
      refine n_iinc (fun x1 => [some (vR 7 0), some (vI a1), some (vI a2), some (vI a3), some (vI x1), none, none]) C dX1_fillFrom_141 rfl (by decide) (fun _ => rfl) (fun x1 ex1 => ?_)
      have h := h x1 ex1
      refine m_goto (tgt := 46) C dX1_fillFrom_144 (by decide) ?_
      exact h
    · have h := h.2 c
      refine m_aload_n C dX1_fillFrom_63 rfl ?_
      refine f_getA C dX1_fillFrom_64 fl_KilnBench_BestSearch_40 rfl (by decide) (by decide) (by decide) (by decide) ?_
      refine m_iload C dX1_fillFrom_67 rfl ?_
      refine m_bipush C dX1_fillFrom_69 (by omega) ?_
      refine m_imul C dX1_fillFrom_71 ?_
      refine m_iload_n C dX1_fillFrom_72 rfl ?_
      refine m_iadd C dX1_fillFrom_73 ?_
      obtain ⟨hb, h⟩ := h
      refine f_iald C dX1_fillFrom_74 (m_arO (a := 0) (len := 48) rfl rfl) (by decide) hb ?_
      refine n_istore (fun x2 => [some (vR 7 0), some (vI a1), some (vI a2), some (vI a3), some (vI l4), some (vI x2), none]) C dX1_fillFrom_75 (by decide) (fun _ => rfl) (fun x2 ex2 => ?_)
      have h := h x2 ex2
      refine m_iload_n C dX1_fillFrom_77 rfl ?_
      refine m_aload_n C dX1_fillFrom_78 rfl ?_
      refine f_getA C dX1_fillFrom_79 fl_KilnBench_BestSearch_43 rfl (by decide) (by decide) (by decide) (by decide) ?_
      refine m_iload C dX1_fillFrom_82 rfl ?_
      obtain ⟨hb, h⟩ := h
      refine f_iald C dX1_fillFrom_84 (m_arO (a := 0) (len := 8) rfl rfl) (by decide) hb ?_
      refine m_isub C dX1_fillFrom_85 ?_
      refine m_iload C dX1_fillFrom_86 rfl ?_
      refine m_iadd C dX1_fillFrom_88 ?_
      refine n_istore (fun x3 => [some (vR 7 0), some (vI a1), some (vI a2), some (vI a3), some (vI l4), some (vI x2), some (vI x3)]) C dX1_fillFrom_89 (by decide) (fun _ => rfl) (fun x3 ex3 => ?_)
      have h := h x3 ex3
      refine m_iload C dX1_fillFrom_91 rfl ?_
      refine m_iconst C dX1_fillFrom_93 (by unfold in32; omega) ?_
      refine m_icmp_eq (tgt := 141) C dX1_fillFrom_94 (by decide) (fun c => ?_) (fun c => ?_)
      · have h := h.1 c
        refine n_iinc (fun x4 => [some (vR 7 0), some (vI a1), some (vI a2), some (vI a3), some (vI x4), some (vI x2), some (vI x3)]) C dX1_fillFrom_141 rfl (by decide) (fun _ => rfl) (fun x4 ex4 => ?_)
        have h := h x4 ex4
        refine m_goto (tgt := 46) C dX1_fillFrom_144 (by decide) ?_
        exact n_weak (le_same (le_same (le_same (le_same (le_same (le_none (le_none le_nil))))))) h
      · have h := h.2 c
        refine m_iload C dX1_fillFrom_97 rfl ?_
        refine m_aload_n C dX1_fillFrom_99 rfl ?_
        refine f_getI C dX1_fillFrom_100 fl_KilnBench_BestSearch_34 rfl (by decide) (by decide) ?_
        refine m_icmp_le (tgt := 141) C dX1_fillFrom_103 (by decide) (fun c => ?_) (fun c => ?_)
        · have h := h.1 c
          refine n_iinc (fun x5 => [some (vR 7 0), some (vI a1), some (vI a2), some (vI a3), some (vI x5), some (vI x2), some (vI x3)]) C dX1_fillFrom_141 rfl (by decide) (fun _ => rfl) (fun x5 ex5 => ?_)
          have h := h x5 ex5
          refine m_goto (tgt := 46) C dX1_fillFrom_144 (by decide) ?_
          exact n_weak (le_same (le_same (le_same (le_same (le_same (le_none (le_none le_nil))))))) h
        · have h := h.2 c
          refine m_aload_n C dX1_fillFrom_106 rfl ?_
          refine m_iload C dX1_fillFrom_107 rfl ?_
          refine m_iload_n C dX1_fillFrom_109 rfl ?_
          refine f_callVi (As := [vI l4, vI a1]) (st := []) C dX1_fillFrom_110 ml_KilnBench_BestSearch_111 rfl (by decide) rfl rfl rfl (Nat.le_of_ble_eq_true rfl) h (fun r7 μ6 h => ?_)
          refine m_if_ne (tgt := 141) C dX1_fillFrom_113 (by decide) (fun c => ?_) (fun c => ?_)
          · have h := h.1 c
            refine n_iinc (fun x8 => [some (vR 7 0), some (vI a1), some (vI a2), some (vI a3), some (vI x8), some (vI x2), some (vI x3)]) C dX1_fillFrom_141 rfl (by decide) (fun _ => rfl) (fun x8 ex8 => ?_)
            have h := h x8 ex8
            refine m_goto (tgt := 46) C dX1_fillFrom_144 (by decide) ?_
            exact n_weak (le_same (le_same (le_same (le_same (le_same (le_none (le_none le_nil))))))) h
          · have h := h.2 c
            refine m_aload_n C dX1_fillFrom_116 rfl ?_
            refine f_getA C dX1_fillFrom_117 fl_KilnBench_BestSearch_37 rfl (by decide) (by decide) (by decide) (by decide) ?_
            refine m_iload_n C dX1_fillFrom_120 rfl ?_
            refine m_iload C dX1_fillFrom_121 rfl ?_
            obtain ⟨hb, h⟩ := h
            refine f_iast C dX1_fillFrom_123 (m_arO (a := 0) (len := 6) rfl rfl) (by decide) hb ?_
            refine n_mem (fun μ9 eμ9 => ?_)
            have h := h μ9 eμ9
            refine m_aload_n C dX1_fillFrom_124 rfl ?_
            refine m_iload_n C dX1_fillFrom_125 rfl ?_
            refine m_iconst C dX1_fillFrom_126 (by unfold in32; omega) ?_
            refine m_iadd C dX1_fillFrom_127 ?_
            refine m_iload_n C dX1_fillFrom_128 rfl ?_
            refine m_iconst C dX1_fillFrom_129 (by unfold in32; omega) ?_
            refine m_iload C dX1_fillFrom_130 rfl ?_
            refine m_ishl C dX1_fillFrom_132 ?_
            refine m_iconst C dX1_fillFrom_133 (by unfold in32; omega) ?_
            refine m_ixor C dX1_fillFrom_134 ?_
            refine m_iand C dX1_fillFrom_135 ?_
            refine m_iload C dX1_fillFrom_136 rfl ?_
            refine f_callVv (As := [vI (w32 (a1 + 1)), vI (i_and a2 (i_xor (i_shl 1 l4) (-1))), vI x3]) (st := []) C dX1_fillFrom_138 ml_KilnBench_BestSearch_84 rfl (by decide) rfl rfl rfl (Nat.le_of_ble_eq_true rfl) h (fun μ10 h => ?_)
            refine n_iinc (fun x11 => [some (vR 7 0), some (vI a1), some (vI a2), some (vI a3), some (vI x11), some (vI x2), some (vI x3)]) C dX1_fillFrom_141 rfl (by decide) (fun _ => rfl) (fun x11 ex11 => ?_)
            have h := h x11 ex11
            refine m_goto (tgt := 46) C dX1_fillFrom_144 (by decide) ?_
            exact n_weak (le_same (le_same (le_same (le_same (le_same (le_none (le_none le_nil))))))) h

set_option maxRecDepth 20000 in
theorem VX1_keepRow_0 {G : m_G} {X : m_X} {d : Nat} {K : m_M → Prop} (C : mC G X YX1_keepRow (d + 1)) (R : r_v G X K) {μ : m_M} {a1 : Int}
    (h : ((a1 ≤ μ 7 0 8) → K μ) ∧ ((¬ a1 ≤ μ 7 0 8) → ∀ μ1 : m_M, μ1 = m_up μ 7 0 8 a1 → ∀ μ2 : m_M, μ2 = m_up μ1 7 0 1 a1 → ∀ μ3 : m_M, μ3 = m_up μ2 7 0 0 (μ2 7 0 7) → ((0 : Int) ≤ 0 ∧ (0 : Int) ≤ 0 ∧ 0 ≤ μ3 7 0 6 ∧ 0 + (μ3 7 0 6) ≤ 6 ∧ 0 + (μ3 7 0 6) ≤ 6) ∧ ∀ μ4 : m_M, μ4 = m_cp μ3 7 10 0 7 3 0 (μ3 7 0 6).toNat → K μ4)) :
    mW G X YX1_keepRow μ 0 [some (vR 7 0), some (vI a1)] [] := by
  refine m_iload_n C dX1_keepRow_0 rfl ?_
  refine m_aload_n C dX1_keepRow_1 rfl ?_
  refine f_getI C dX1_keepRow_2 fl_KilnBench_BestSearch_34 rfl (by decide) (by decide) ?_
  refine m_icmp_le (tgt := 43) C dX1_keepRow_5 (by decide) (fun c => ?_) (fun c => ?_)
  · have h := h.1 c
    exact f_vret C R rfl dX1_keepRow_43 h
  · have h := h.2 c
    refine m_aload_n C dX1_keepRow_8 rfl ?_
    refine m_iload_n C dX1_keepRow_9 rfl ?_
    refine f_putI C dX1_keepRow_10 fl_KilnBench_BestSearch_34 rfl (by decide) (by decide) (by decide) ?_
    refine n_mem (fun μ1 eμ1 => ?_)
    have h := h μ1 eμ1
    refine m_aload_n C dX1_keepRow_13 rfl ?_
    refine m_iload_n C dX1_keepRow_14 rfl ?_
    refine f_putI C dX1_keepRow_15 fl_KilnBench_BestSearch_15 rfl (by decide) (by decide) (by decide) ?_
    refine n_mem (fun μ2 eμ2 => ?_)
    have h := h μ2 eμ2
    refine m_aload_n C dX1_keepRow_18 rfl ?_
    refine m_aload_n C dX1_keepRow_19 rfl ?_
    refine f_getI C dX1_keepRow_20 fl_KilnBench_BestSearch_31 rfl (by decide) (by decide) ?_
    refine f_putI C dX1_keepRow_23 fl_KilnBench_BestSearch_9 rfl (by decide) (by decide) (by decide) ?_
    refine n_mem (fun μ3 eμ3 => ?_)
    have h := h μ3 eμ3
    refine m_aload_n C dX1_keepRow_26 rfl ?_
    refine f_getA C dX1_keepRow_27 fl_KilnBench_BestSearch_37 rfl (by decide) (by decide) (by decide) (by decide) ?_
    refine m_iconst C dX1_keepRow_30 (by unfold in32; omega) ?_
    refine m_aload_n C dX1_keepRow_31 rfl ?_
    refine f_getA C dX1_keepRow_32 fl_KilnBench_BestSearch_18 rfl (by decide) (by decide) (by decide) (by decide) ?_
    refine m_iconst C dX1_keepRow_35 (by unfold in32; omega) ?_
    refine m_aload_n C dX1_keepRow_36 rfl ?_
    refine f_getI C dX1_keepRow_37 fl_KilnBench_BestSearch_28 rfl (by decide) (by decide) ?_
    obtain ⟨hb, h⟩ := h
    refine f_copy C dX1_keepRow_40 ma_KilnBench_BestSearch_115 ma_n ma_s ma_i (m_arO (a := 0) (len := 6) rfl rfl) (by decide) (m_arO (a := 0) (len := 6) rfl rfl) (by decide) (Nat.le_of_ble_eq_true rfl) hb ?_
    refine n_mem (fun μ4 eμ4 => ?_)
    have h := h μ4 eμ4
    exact f_vret C R rfl dX1_keepRow_43 h

set_option maxRecDepth 20000 in
theorem VX1_sticksToLeft_0 {G : m_G} {X : m_X} {d : Nat} {K : Int → m_M → Prop} (C : mC G X YX1_sticksToLeft (d + 1)) (R : r_i G X K) {μ : m_M} {a1 : Int} {a2 : Int}
    (h : ((a2 = 0) → K 0 μ) ∧ ((¬ a2 = 0) → (0 ≤ w32 (a2 - 1) ∧ w32 (a2 - 1) < 6) ∧ ((¬ (μ 7 10 (w32 (a2 - 1)).toNat) = (-1)) → (0 ≤ w32 (a2 - 1) ∧ w32 (a2 - 1) < 6) ∧ ∀ x1 : Int, x1 = μ 7 10 (w32 (a2 - 1)).toNat → ∀ x2 : Int, x2 = w32 ((w32 ((w32 ((w32 (a2 * 8)) + x1)) * 8)) + a1) → (0 ≤ x2 ∧ x2 < 384) ∧ ((¬ (μ 7 13 x2.toNat) = 0) → (0 ≤ x2 ∧ x2 < 384) ∧ ((¬ (μ 7 13 x2.toNat) = 2) → K 0 μ) ∧ ((μ 7 13 x2.toNat = 2) → K 1 μ)) ∧ ((μ 7 13 x2.toNat = 0) → (0 ≤ w32 ((w32 ((w32 (x1 * 6)) + a2)) - 1) ∧ w32 ((w32 ((w32 (x1 * 6)) + a2)) - 1) < 48) ∧ ∀ x3 : Int, x3 = μ 7 11 (w32 ((w32 ((w32 (x1 * 6)) + a2)) - 1)).toNat → (0 ≤ w32 ((w32 (a1 * 6)) + a2) ∧ w32 ((w32 (a1 * 6)) + a2) < 48) ∧ ∀ x4 : Int, x4 = w32 (x3 - (μ 7 11 (w32 ((w32 (a1 * 6)) + a2)).toNat)) → c_i G d YX4_isStuck [vR 4 0, vI x1, vI a1, vI x4, vI (μ 7 0 7), vI (μ 7 0 5)] μ (fun r6 μ5 => ((r6 = 0) → (0 ≤ x2 ∧ x2 < 384) ∧ ∀ μ8 : m_M, μ8 = m_up μ5 7 13 x2.toNat (i_b (i_b 1)) → (0 ≤ x2 ∧ x2 < 384) ∧ ((¬ (μ8 7 13 x2.toNat) = 2) → K 0 μ8) ∧ ((μ8 7 13 x2.toNat = 2) → K 1 μ8)) ∧ ((¬ r6 = 0) → (0 ≤ x2 ∧ x2 < 384) ∧ ∀ μ9 : m_M, μ9 = m_up μ5 7 13 x2.toNat (i_b (i_b 2)) → (0 ≤ x2 ∧ x2 < 384) ∧ ((¬ (μ9 7 13 x2.toNat) = 2) → K 0 μ9) ∧ ((μ9 7 13 x2.toNat = 2) → K 1 μ9))))) ∧ ((μ 7 10 (w32 (a2 - 1)).toNat = (-1)) → K 0 μ))) :
    mW G X YX1_sticksToLeft μ 0 [some (vR 7 0), some (vI a1), some (vI a2), none, none, none, none, none] [] := by
  refine m_iload_n C dX1_sticksToLeft_0 rfl ?_
  refine m_if_eq (tgt := 16) C dX1_sticksToLeft_1 (by decide) (fun c => ?_) (fun c => ?_)
  · have h := h.1 c
    refine m_iconst C dX1_sticksToLeft_16 (by unfold in32; omega) ?_
    exact f_zret C R rfl dX1_sticksToLeft_17 (by decide) h
  · have h := h.2 c
    refine m_aload_n C dX1_sticksToLeft_4 rfl ?_
    refine f_getA C dX1_sticksToLeft_5 fl_KilnBench_BestSearch_37 rfl (by decide) (by decide) (by decide) (by decide) ?_
    refine m_iload_n C dX1_sticksToLeft_8 rfl ?_
    refine m_iconst C dX1_sticksToLeft_9 (by unfold in32; omega) ?_
    refine m_isub C dX1_sticksToLeft_10 ?_
    obtain ⟨hb, h⟩ := h
    refine f_iald C dX1_sticksToLeft_11 (m_arO (a := 0) (len := 6) rfl rfl) (by decide) hb ?_
    refine m_iconst C dX1_sticksToLeft_12 (by unfold in32; omega) ?_
    refine m_icmp_ne (tgt := 18) C dX1_sticksToLeft_13 (by decide) (fun c => ?_) (fun c => ?_)
    · have h := h.1 c
      refine m_aload_n C dX1_sticksToLeft_18 rfl ?_
      refine f_getA C dX1_sticksToLeft_19 fl_KilnBench_BestSearch_37 rfl (by decide) (by decide) (by decide) (by decide) ?_
      refine m_iload_n C dX1_sticksToLeft_22 rfl ?_
      refine m_iconst C dX1_sticksToLeft_23 (by unfold in32; omega) ?_
      refine m_isub C dX1_sticksToLeft_24 ?_
      obtain ⟨hb, h⟩ := h
      refine f_iald C dX1_sticksToLeft_25 (m_arO (a := 0) (len := 6) rfl rfl) (by decide) hb ?_
      refine n_istore_n (fun x1 => [some (vR 7 0), some (vI a1), some (vI a2), some (vI x1), none, none, none, none]) C dX1_sticksToLeft_26 (by decide) (fun _ => rfl) (fun x1 ex1 => ?_)
      have h := h x1 ex1
      refine m_iload_n C dX1_sticksToLeft_27 rfl ?_
      refine m_bipush C dX1_sticksToLeft_28 (by omega) ?_
      refine m_imul C dX1_sticksToLeft_30 ?_
      refine m_iload_n C dX1_sticksToLeft_31 rfl ?_
      refine m_iadd C dX1_sticksToLeft_32 ?_
      refine m_bipush C dX1_sticksToLeft_33 (by omega) ?_
      refine m_imul C dX1_sticksToLeft_35 ?_
      refine m_iload_n C dX1_sticksToLeft_36 rfl ?_
      refine m_iadd C dX1_sticksToLeft_37 ?_
      refine n_istore (fun x2 => [some (vR 7 0), some (vI a1), some (vI a2), some (vI x1), some (vI x2), none, none, none]) C dX1_sticksToLeft_38 (by decide) (fun _ => rfl) (fun x2 ex2 => ?_)
      have h := h x2 ex2
      refine m_aload_n C dX1_sticksToLeft_40 rfl ?_
      refine f_getA C dX1_sticksToLeft_41 fl_KilnBench_BestSearch_46 rfl (by decide) (by decide) (by decide) (by decide) ?_
      refine m_iload C dX1_sticksToLeft_44 rfl ?_
      obtain ⟨hb, h⟩ := h
      refine f_bald C dX1_sticksToLeft_46 (m_arO (a := 1) (len := 384) rfl rfl) (by decide) hb ?_
      refine m_if_ne (tgt := 120) C dX1_sticksToLeft_47 (by decide) (fun c => ?_) (fun c => ?_)
      · have h := h.1 c
        refine m_aload_n C dX1_sticksToLeft_120 rfl ?_
        refine f_getA C dX1_sticksToLeft_121 fl_KilnBench_BestSearch_46 rfl (by decide) (by decide) (by decide) (by decide) ?_
        refine m_iload C dX1_sticksToLeft_124 rfl ?_
        obtain ⟨hb, h⟩ := h
        refine f_bald C dX1_sticksToLeft_126 (m_arO (a := 1) (len := 384) rfl rfl) (by decide) hb ?_
        refine m_iconst C dX1_sticksToLeft_127 (by unfold in32; omega) ?_
        refine m_icmp_ne (tgt := 135) C dX1_sticksToLeft_128 (by decide) (fun c => ?_) (fun c => ?_)
        · have h := h.1 c
          refine m_iconst C dX1_sticksToLeft_135 (by unfold in32; omega) ?_
          exact f_zret C R rfl dX1_sticksToLeft_136 (by decide) h
        · have h := h.2 c
          refine m_iconst C dX1_sticksToLeft_131 (by unfold in32; omega) ?_
          refine m_goto (tgt := 136) C dX1_sticksToLeft_132 (by decide) ?_
          exact f_zret C R rfl dX1_sticksToLeft_136 (by decide) h
      · have h := h.2 c
        refine m_aload_n C dX1_sticksToLeft_50 rfl ?_
        refine f_getA C dX1_sticksToLeft_51 fl_KilnBench_BestSearch_40 rfl (by decide) (by decide) (by decide) (by decide) ?_
        refine m_iload_n C dX1_sticksToLeft_54 rfl ?_
        refine m_bipush C dX1_sticksToLeft_55 (by omega) ?_
        refine m_imul C dX1_sticksToLeft_57 ?_
        refine m_iload_n C dX1_sticksToLeft_58 rfl ?_
        refine m_iadd C dX1_sticksToLeft_59 ?_
        refine m_iconst C dX1_sticksToLeft_60 (by unfold in32; omega) ?_
        refine m_isub C dX1_sticksToLeft_61 ?_
        obtain ⟨hb, h⟩ := h
        refine f_iald C dX1_sticksToLeft_62 (m_arO (a := 0) (len := 48) rfl rfl) (by decide) hb ?_
        refine n_istore (fun x3 => [some (vR 7 0), some (vI a1), some (vI a2), some (vI x1), some (vI x2), some (vI x3), none, none]) C dX1_sticksToLeft_63 (by decide) (fun _ => rfl) (fun x3 ex3 => ?_)
        have h := h x3 ex3
        refine m_iload C dX1_sticksToLeft_65 rfl ?_
        refine m_aload_n C dX1_sticksToLeft_67 rfl ?_
        refine f_getA C dX1_sticksToLeft_68 fl_KilnBench_BestSearch_40 rfl (by decide) (by decide) (by decide) (by decide) ?_
        refine m_iload_n C dX1_sticksToLeft_71 rfl ?_
        refine m_bipush C dX1_sticksToLeft_72 (by omega) ?_
        refine m_imul C dX1_sticksToLeft_74 ?_
        refine m_iload_n C dX1_sticksToLeft_75 rfl ?_
        refine m_iadd C dX1_sticksToLeft_76 ?_
        obtain ⟨hb, h⟩ := h
        refine f_iald C dX1_sticksToLeft_77 (m_arO (a := 0) (len := 48) rfl rfl) (by decide) hb ?_
        refine m_isub C dX1_sticksToLeft_78 ?_
        refine n_istore (fun x4 => [some (vR 7 0), some (vI a1), some (vI a2), some (vI x1), some (vI x2), some (vI x3), some (vI x4), none]) C dX1_sticksToLeft_79 (by decide) (fun _ => rfl) (fun x4 ex4 => ?_)
        have h := h x4 ex4
        refine m_aload_n C dX1_sticksToLeft_81 rfl ?_
        refine f_getO (t := 4) C dX1_sticksToLeft_82 fl_KilnBench_BestSearch_50 rfl (by decide) (by decide) (by decide) (by decide) ?_
        refine m_iload_n C dX1_sticksToLeft_85 rfl ?_
        refine m_iload_n C dX1_sticksToLeft_86 rfl ?_
        refine m_iload C dX1_sticksToLeft_87 rfl ?_
        refine m_aload_n C dX1_sticksToLeft_89 rfl ?_
        refine f_getI C dX1_sticksToLeft_90 fl_KilnBench_BestSearch_31 rfl (by decide) (by decide) ?_
        refine m_aload_n C dX1_sticksToLeft_93 rfl ?_
        refine f_getI C dX1_sticksToLeft_94 fl_KilnBench_BestSearch_25 rfl (by decide) (by decide) ?_
        refine f_callVi (As := [vI x1, vI a1, vI x4, vI (μ 7 0 7), vI (μ 7 0 5)]) (st := []) C dX1_sticksToLeft_97 ml_KilnBench_BestSearch_121 rfl (by decide) rfl rfl rfl (Nat.le_of_ble_eq_true rfl) h (fun r6 μ5 h => ?_)
        refine o_istore [some (vR 7 0), some (vI a1), some (vI a2), some (vI x1), some (vI x2), some (vI x3), some (vI x4), some (vI r6)] C dX1_sticksToLeft_100 (by decide) rfl ?_
        refine m_aload_n C dX1_sticksToLeft_102 rfl ?_
        refine f_getA C dX1_sticksToLeft_103 fl_KilnBench_BestSearch_46 rfl (by decide) (by decide) (by decide) (by decide) ?_
        refine m_iload C dX1_sticksToLeft_106 rfl ?_
        refine m_iload C dX1_sticksToLeft_108 rfl ?_
        refine m_if_eq (tgt := 117) C dX1_sticksToLeft_110 (by decide) (fun c => ?_) (fun c => ?_)
        · have h := h.1 c
          refine m_iconst C dX1_sticksToLeft_117 (by unfold in32; omega) ?_
          refine m_i2b C dX1_sticksToLeft_118 ?_
          obtain ⟨hb, h⟩ := h
          refine f_bast C dX1_sticksToLeft_119 (m_arO (a := 1) (len := 384) rfl rfl) (by decide) hb ?_
          refine n_mem (fun μ8 eμ8 => ?_)
          have h := h μ8 eμ8
          refine m_aload_n C dX1_sticksToLeft_120 rfl ?_
          refine f_getA C dX1_sticksToLeft_121 fl_KilnBench_BestSearch_46 rfl (by decide) (by decide) (by decide) (by decide) ?_
          refine m_iload C dX1_sticksToLeft_124 rfl ?_
          obtain ⟨hb, h⟩ := h
          refine f_bald C dX1_sticksToLeft_126 (m_arO (a := 1) (len := 384) rfl rfl) (by decide) hb ?_
          refine m_iconst C dX1_sticksToLeft_127 (by unfold in32; omega) ?_
          refine m_icmp_ne (tgt := 135) C dX1_sticksToLeft_128 (by decide) (fun c => ?_) (fun c => ?_)
          · have h := h.1 c
            refine m_iconst C dX1_sticksToLeft_135 (by unfold in32; omega) ?_
            exact f_zret C R rfl dX1_sticksToLeft_136 (by decide) h
          · have h := h.2 c
            refine m_iconst C dX1_sticksToLeft_131 (by unfold in32; omega) ?_
            refine m_goto (tgt := 136) C dX1_sticksToLeft_132 (by decide) ?_
            exact f_zret C R rfl dX1_sticksToLeft_136 (by decide) h
        · have h := h.2 c
          refine m_iconst C dX1_sticksToLeft_113 (by unfold in32; omega) ?_
          refine m_goto (tgt := 118) C dX1_sticksToLeft_114 (by decide) ?_
          refine m_i2b C dX1_sticksToLeft_118 ?_
          obtain ⟨hb, h⟩ := h
          refine f_bast C dX1_sticksToLeft_119 (m_arO (a := 1) (len := 384) rfl rfl) (by decide) hb ?_
          refine n_mem (fun μ9 eμ9 => ?_)
          have h := h μ9 eμ9
          refine m_aload_n C dX1_sticksToLeft_120 rfl ?_
          refine f_getA C dX1_sticksToLeft_121 fl_KilnBench_BestSearch_46 rfl (by decide) (by decide) (by decide) (by decide) ?_
          refine m_iload C dX1_sticksToLeft_124 rfl ?_
          obtain ⟨hb, h⟩ := h
          refine f_bald C dX1_sticksToLeft_126 (m_arO (a := 1) (len := 384) rfl rfl) (by decide) hb ?_
          refine m_iconst C dX1_sticksToLeft_127 (by unfold in32; omega) ?_
          refine m_icmp_ne (tgt := 135) C dX1_sticksToLeft_128 (by decide) (fun c => ?_) (fun c => ?_)
          · have h := h.1 c
            refine m_iconst C dX1_sticksToLeft_135 (by unfold in32; omega) ?_
            exact f_zret C R rfl dX1_sticksToLeft_136 (by decide) h
          · have h := h.2 c
            refine m_iconst C dX1_sticksToLeft_131 (by unfold in32; omega) ?_
            refine m_goto (tgt := 136) C dX1_sticksToLeft_132 (by decide) ?_
            exact f_zret C R rfl dX1_sticksToLeft_136 (by decide) h
    · have h := h.2 c
      refine m_iconst C dX1_sticksToLeft_16 (by unfold in32; omega) ?_
      exact f_zret C R rfl dX1_sticksToLeft_17 (by decide) h

set_option maxRecDepth 20000 in
theorem VX2_keep_0 {G : m_G} {X : m_X} {d : Nat} {K : m_M → Prop} (C : mC G X YX2_keep (d + 1)) (R : r_v G X K) {μ : m_M} {a1 : Nat} (hc_a1 : m_cls a1 = 0)
    (h : (0 ≤ μ 6 0 1 ∧ μ 6 0 1 < 20) ∧ c_v G d YX0_copyFrom [vR (12 + (μ 6 0 1).toNat) 0, vR a1 0] μ (fun μ2 => ∀ μ3 : m_M, μ3 = m_up μ2 6 0 1 ((w32 ((μ2 6 0 1) + 1)).tmod 20) → ∀ μ4 : m_M, μ4 = m_up μ3 6 0 2 (if w32 ((μ3 6 0 2) + 1) < 20 then w32 ((μ3 6 0 2) + 1) else 20) → K μ4)) :
    mW G X YX2_keep μ 0 [some (vR 6 0), some (vR a1 0)] [] := by
  refine m_aload_n C dX2_keep_0 rfl ?_
  refine f_getA C dX2_keep_1 fl_KilnBench_History_11 rfl (by decide) (by decide) (by decide) (by decide) ?_
  refine m_aload_n C dX2_keep_4 rfl ?_
  refine f_getI C dX2_keep_5 fl_KilnBench_History_17 rfl (by decide) (by decide) ?_
  obtain ⟨hb1, h⟩ := h
  refine f_past C dX2_keep_8 hb1 ?_
  refine m_aload_n C dX2_keep_9 rfl ?_
  refine f_callVv (As := [vR a1 0]) (st := []) C dX2_keep_10 ml_KilnBench_History_25 (m_past hb1) (by decide) rfl rfl rfl (Nat.le_of_ble_eq_true rfl) h (fun μ2 h => ?_)
  refine m_aload_n C dX2_keep_13 rfl ?_
  refine m_aload_n C dX2_keep_14 rfl ?_
  refine f_getI C dX2_keep_15 fl_KilnBench_History_17 rfl (by decide) (by decide) ?_
  refine m_iconst C dX2_keep_18 (by unfold in32; omega) ?_
  refine m_iadd C dX2_keep_19 ?_
  refine m_bipush C dX2_keep_20 (by omega) ?_
  refine m_irem C dX2_keep_22 (by decide) ?_
  refine f_putI C dX2_keep_23 fl_KilnBench_History_17 rfl (by decide) (by decide) (by decide) ?_
  refine n_mem (fun μ3 eμ3 => ?_)
  have h := h μ3 eμ3
  refine m_aload_n C dX2_keep_26 rfl ?_
  refine m_bipush C dX2_keep_27 (by omega) ?_
  refine m_aload_n C dX2_keep_29 rfl ?_
  refine f_getI C dX2_keep_30 fl_KilnBench_History_21 rfl (by decide) (by decide) ?_
  refine m_iconst C dX2_keep_33 (by unfold in32; omega) ?_
  refine m_iadd C dX2_keep_34 ?_
  refine m_mmin C dX2_keep_35 mi_KilnBench_History_29 mb_mmins mb_ini mb_mmin (Nat.le_of_ble_eq_true rfl) (Nat.le_refl _) (Nat.le_refl _) ?_
  refine f_putI C dX2_keep_38 fl_KilnBench_History_21 rfl (by decide) (by decide) (by decide) ?_
  refine n_mem (fun μ4 eμ4 => ?_)
  have h := h μ4 eμ4
  exact f_vret C R rfl dX2_keep_41 h

set_option maxRecDepth 20000 in
theorem VX2_giveBack_0 {G : m_G} {X : m_X} {d : Nat} {K : Int → m_M → Prop} (C : mC G X YX2_giveBack (d + 1)) (R : r_i G X K) {μ : m_M} {a1 : Nat} (hc_a1 : m_cls a1 = 0)
    (h : ((¬ (μ 6 0 2) = 0) → ∀ μ1 : m_M, μ1 = m_up μ 6 0 1 ((w32 ((w32 ((μ 6 0 1) + 20)) - 1)).tmod 20) → ∀ μ2 : m_M, μ2 = m_up μ1 6 0 2 (w32 ((μ1 6 0 2) - 1)) → (0 ≤ μ2 6 0 1 ∧ μ2 6 0 1 < 20) ∧ c_v G d YX0_copyFrom [vR a1 0, vR (12 + (μ2 6 0 1).toNat) 0] μ2 (fun μ4 => K 1 μ4)) ∧ ((μ 6 0 2 = 0) → K 0 μ)) :
    mW G X YX2_giveBack μ 0 [some (vR 6 0), some (vR a1 0)] [] := by
  refine m_aload_n C dX2_giveBack_0 rfl ?_
  refine f_getI C dX2_giveBack_1 fl_KilnBench_History_21 rfl (by decide) (by decide) ?_
  refine m_if_ne (tgt := 9) C dX2_giveBack_4 (by decide) (fun c => ?_) (fun c => ?_)
  · have h := h.1 c
    refine m_aload_n C dX2_giveBack_9 rfl ?_
    refine m_aload_n C dX2_giveBack_10 rfl ?_
    refine f_getI C dX2_giveBack_11 fl_KilnBench_History_17 rfl (by decide) (by decide) ?_
    refine m_bipush C dX2_giveBack_14 (by omega) ?_
    refine m_iadd C dX2_giveBack_16 ?_
    refine m_iconst C dX2_giveBack_17 (by unfold in32; omega) ?_
    refine m_isub C dX2_giveBack_18 ?_
    refine m_bipush C dX2_giveBack_19 (by omega) ?_
    refine m_irem C dX2_giveBack_21 (by decide) ?_
    refine f_putI C dX2_giveBack_22 fl_KilnBench_History_17 rfl (by decide) (by decide) (by decide) ?_
    refine n_mem (fun μ1 eμ1 => ?_)
    have h := h μ1 eμ1
    refine m_aload_n C dX2_giveBack_25 rfl ?_
    refine m_dup C dX2_giveBack_26 rfl ?_
    refine f_getI C dX2_giveBack_27 fl_KilnBench_History_21 rfl (by decide) (by decide) ?_
    refine m_iconst C dX2_giveBack_30 (by unfold in32; omega) ?_
    refine m_isub C dX2_giveBack_31 ?_
    refine f_putI C dX2_giveBack_32 fl_KilnBench_History_21 rfl (by decide) (by decide) (by decide) ?_
    refine n_mem (fun μ2 eμ2 => ?_)
    have h := h μ2 eμ2
    refine m_aload_n C dX2_giveBack_35 rfl ?_
    refine m_aload_n C dX2_giveBack_36 rfl ?_
    refine f_getA C dX2_giveBack_37 fl_KilnBench_History_11 rfl (by decide) (by decide) (by decide) (by decide) ?_
    refine m_aload_n C dX2_giveBack_40 rfl ?_
    refine f_getI C dX2_giveBack_41 fl_KilnBench_History_17 rfl (by decide) (by decide) ?_
    obtain ⟨hb3, h⟩ := h
    refine f_past C dX2_giveBack_44 hb3 ?_
    refine f_callVv (As := [vR (12 + (μ2 6 0 1).toNat) 0]) (st := []) C dX2_giveBack_45 ml_KilnBench_History_25 hc_a1 (by decide) rfl rfl rfl (Nat.le_of_ble_eq_true rfl) h (fun μ4 h => ?_)
    refine m_iconst C dX2_giveBack_48 (by unfold in32; omega) ?_
    exact f_zret C R rfl dX2_giveBack_49 (by decide) h
  · have h := h.2 c
    refine m_iconst C dX2_giveBack_7 (by unfold in32; omega) ?_
    exact f_zret C R rfl dX2_giveBack_8 (by decide) h

set_option maxRecDepth 20000 in
theorem VX3_write_0 {G : m_G} {X : m_X} {d : Nat} {K : m_M → Prop} (C : mC G X YX3_write (d + 1)) (R : r_v G X K) {μ : m_M} {a1 : Nat} {a2 : Nat} (hc_a1 : m_cls a1 = 0) (hc_a2 : m_cls a2 = 9)
    (h : ∀ μ1 : m_M, μ1 = m_up μ 9 0 1 0 → c_v G d YX3_put [vR 9 0, vI (i_shr (μ1 a1 0 0) 8)] μ1 (fun μ2 => c_v G d YX3_put [vR 9 0, vI (μ2 a1 0 0)] μ2 (fun μ3 => c_v G d YX3_put [vR 9 0, vI (i_shr (μ3 a1 0 1) 8)] μ3 (fun μ4 => c_v G d YX3_put [vR 9 0, vI (μ4 a1 0 1)] μ4 (fun μ5 => mW G X YX3_write μ5 45 [some (vR 9 0), some (vR a1 0), some (vR a2 0), some (vI 0), none] []))))) :
    mW G X YX3_write μ 0 [some (vR 9 0), some (vR a1 0), some (vR a2 0), none, none] [] := by
  refine m_aload_n C dX3_write_0 rfl ?_
  refine m_iconst C dX3_write_1 (by unfold in32; omega) ?_
  refine f_putI C dX3_write_2 fl_KilnBench_Image_15 rfl (by decide) (by decide) (by decide) ?_
  refine n_mem (fun μ1 eμ1 => ?_)
  have h := h μ1 eμ1
  refine m_aload_n C dX3_write_5 rfl ?_
  refine m_aload_n C dX3_write_6 rfl ?_
  refine f_getI C dX3_write_7 fl_KilnBench_Image_19 hc_a1 (by decide) (by decide) ?_
  refine m_bipush C dX3_write_10 (by omega) ?_
  refine m_ishr C dX3_write_12 ?_
  refine f_callVv (As := [vI (i_shr (μ1 a1 0 0) 8)]) (st := []) C dX3_write_13 ml_KilnBench_Image_24 rfl (by decide) rfl rfl rfl (Nat.le_of_ble_eq_true rfl) h (fun μ2 h => ?_)
  refine m_aload_n C dX3_write_16 rfl ?_
  refine m_aload_n C dX3_write_17 rfl ?_
  refine f_getI C dX3_write_18 fl_KilnBench_Image_19 hc_a1 (by decide) (by decide) ?_
  refine f_callVv (As := [vI (μ2 a1 0 0)]) (st := []) C dX3_write_21 ml_KilnBench_Image_24 rfl (by decide) rfl rfl rfl (Nat.le_of_ble_eq_true rfl) h (fun μ3 h => ?_)
  refine m_aload_n C dX3_write_24 rfl ?_
  refine m_aload_n C dX3_write_25 rfl ?_
  refine f_getI C dX3_write_26 fl_KilnBench_Image_28 hc_a1 (by decide) (by decide) ?_
  refine m_bipush C dX3_write_29 (by omega) ?_
  refine m_ishr C dX3_write_31 ?_
  refine f_callVv (As := [vI (i_shr (μ3 a1 0 1) 8)]) (st := []) C dX3_write_32 ml_KilnBench_Image_24 rfl (by decide) rfl rfl rfl (Nat.le_of_ble_eq_true rfl) h (fun μ4 h => ?_)
  refine m_aload_n C dX3_write_35 rfl ?_
  refine m_aload_n C dX3_write_36 rfl ?_
  refine f_getI C dX3_write_37 fl_KilnBench_Image_28 hc_a1 (by decide) (by decide) ?_
  refine f_callVv (As := [vI (μ4 a1 0 1)]) (st := []) C dX3_write_40 ml_KilnBench_Image_24 rfl (by decide) rfl rfl rfl (Nat.le_of_ble_eq_true rfl) h (fun μ5 h => ?_)
  refine m_iconst C dX3_write_43 (by unfold in32; omega) ?_
  refine o_istore_n [some (vR 9 0), some (vR a1 0), some (vR a2 0), some (vI 0), none] C dX3_write_44 (by decide) rfl ?_
  exact h

set_option maxRecDepth 20000 in
theorem VX3_write_45 {G : m_G} {X : m_X} {d : Nat} {K : m_M → Prop} (C : mC G X YX3_write (d + 1)) (R : r_v G X K) {μ : m_M} {a1 : Nat} {a2 : Nat} {l3 : Int} (hc_a1 : m_cls a1 = 0) (hc_a2 : m_cls a2 = 9)
    (h : ((μ a2 0 3 ≤ l3) → mW G X YX3_write μ 128 [some (vR 9 0), some (vR a1 0), some (vR a2 0), some (vI 0), none] []) ∧ ((¬ μ a2 0 3 ≤ l3) → c_i G d YX0_isFired [vR a1 0, vI l3] μ (fun r3 μ2 => ((r3 = 0) → c_v G d YX3_put [vR 9 0, vI 0] μ2 (fun μ4 => (0 ≤ l3 ∧ l3 < 8) ∧ c_v G d YX3_put [vR 9 0, vI (μ4 a1 3 l3.toNat)] μ4 (fun μ5 => (0 ≤ l3 ∧ l3 < 8) ∧ c_v G d YX3_put [vR 9 0, vI (μ5 a1 4 l3.toNat)] μ5 (fun μ6 => (0 ≤ l3 ∧ l3 < 8) ∧ c_v G d YX3_put [vR 9 0, vI (μ6 a1 5 l3.toNat)] μ6 (fun μ7 => (0 ≤ l3 ∧ l3 < 8) ∧ c_v G d YX3_put [vR 9 0, vI (μ7 a1 6 l3.toNat)] μ7 (fun μ8 => (0 ≤ l3 ∧ l3 < 8) ∧ c_v G d YX3_put [vR 9 0, vI (μ8 a1 7 l3.toNat)] μ8 (fun μ9 => ∀ x10 : Int, x10 = w32 (l3 + 1) → mW G X YX3_write μ9 45 [some (vR 9 0), some (vR a1 0), some (vR a2 0), some (vI x10), none] []))))))) ∧ ((¬ r3 = 0) → c_v G d YX3_put [vR 9 0, vI 1] μ2 (fun μ11 => (0 ≤ l3 ∧ l3 < 8) ∧ c_v G d YX3_put [vR 9 0, vI (μ11 a1 3 l3.toNat)] μ11 (fun μ12 => (0 ≤ l3 ∧ l3 < 8) ∧ c_v G d YX3_put [vR 9 0, vI (μ12 a1 4 l3.toNat)] μ12 (fun μ13 => (0 ≤ l3 ∧ l3 < 8) ∧ c_v G d YX3_put [vR 9 0, vI (μ13 a1 5 l3.toNat)] μ13 (fun μ14 => (0 ≤ l3 ∧ l3 < 8) ∧ c_v G d YX3_put [vR 9 0, vI (μ14 a1 6 l3.toNat)] μ14 (fun μ15 => (0 ≤ l3 ∧ l3 < 8) ∧ c_v G d YX3_put [vR 9 0, vI (μ15 a1 7 l3.toNat)] μ15 (fun μ16 => ∀ x17 : Int, x17 = w32 (l3 + 1) → mW G X YX3_write μ16 45 [some (vR 9 0), some (vR a1 0), some (vR a2 0), some (vI x17), none] [])))))))))) :
    mW G X YX3_write μ 45 [some (vR 9 0), some (vR a1 0), some (vR a2 0), some (vI l3), none] [] := by
  refine m_iload_n C dX3_write_45 rfl ?_
  refine m_aload_n C dX3_write_46 rfl ?_
  refine f_getI C dX3_write_47 fl_KilnBench_Image_31 hc_a2 (by decide) (by decide) ?_
  refine m_icmp_ge (tgt := 126) C dX3_write_50 (by decide) (fun c => ?_) (fun c => ?_)
  · have h := h.1 c
    refine m_iconst C dX3_write_126 (by unfold in32; omega) ?_
    refine o_istore_n [some (vR 9 0), some (vR a1 0), some (vR a2 0), some (vI 0), none] C dX3_write_127 (by decide) rfl ?_
    exact h
  · have h := h.2 c
    refine m_aload_n C dX3_write_53 rfl ?_
    refine m_aload_n C dX3_write_54 rfl ?_
    refine m_iload_n C dX3_write_55 rfl ?_
    refine f_callVi (As := [vI l3]) (st := [vR 9 0]) C dX3_write_56 ml_KilnBench_Image_36 hc_a1 (by decide) rfl rfl rfl (Nat.le_of_ble_eq_true rfl) h (fun r3 μ2 h => ?_)
    refine m_if_eq (tgt := 66) C dX3_write_59 (by decide) (fun c => ?_) (fun c => ?_)
    · have h := h.1 c
      refine m_iconst C dX3_write_66 (by unfold in32; omega) ?_
      refine f_callVv (As := [vI 0]) (st := []) C dX3_write_67 ml_KilnBench_Image_24 rfl (by decide) rfl rfl rfl (Nat.le_of_ble_eq_true rfl) h (fun μ4 h => ?_)
      refine m_aload_n C dX3_write_70 rfl ?_
      refine m_aload_n C dX3_write_71 rfl ?_
      refine f_getA C dX3_write_72 fl_KilnBench_Image_40 hc_a1 (by decide) (by decide) (by decide) (by decide) ?_
      refine m_iload_n C dX3_write_75 rfl ?_
      obtain ⟨hb, h⟩ := h
      refine f_iald C dX3_write_76 (m_arO (a := 0) (len := 8) hc_a1 rfl) (by decide) hb ?_
      refine f_callVv (As := [vI (μ4 a1 3 l3.toNat)]) (st := []) C dX3_write_77 ml_KilnBench_Image_24 rfl (by decide) rfl rfl rfl (Nat.le_of_ble_eq_true rfl) h (fun μ5 h => ?_)
      refine m_aload_n C dX3_write_80 rfl ?_
      refine m_aload_n C dX3_write_81 rfl ?_
      refine f_getA C dX3_write_82 fl_KilnBench_Image_43 hc_a1 (by decide) (by decide) (by decide) (by decide) ?_
      refine m_iload_n C dX3_write_85 rfl ?_
      obtain ⟨hb, h⟩ := h
      refine f_iald C dX3_write_86 (m_arO (a := 0) (len := 8) hc_a1 rfl) (by decide) hb ?_
      refine f_callVv (As := [vI (μ5 a1 4 l3.toNat)]) (st := []) C dX3_write_87 ml_KilnBench_Image_24 rfl (by decide) rfl rfl rfl (Nat.le_of_ble_eq_true rfl) h (fun μ6 h => ?_)
      refine m_aload_n C dX3_write_90 rfl ?_
      refine m_aload_n C dX3_write_91 rfl ?_
      refine f_getA C dX3_write_92 fl_KilnBench_Image_46 hc_a1 (by decide) (by decide) (by decide) (by decide) ?_
      refine m_iload_n C dX3_write_95 rfl ?_
      obtain ⟨hb, h⟩ := h
      refine f_iald C dX3_write_96 (m_arO (a := 0) (len := 8) hc_a1 rfl) (by decide) hb ?_
      refine f_callVv (As := [vI (μ6 a1 5 l3.toNat)]) (st := []) C dX3_write_97 ml_KilnBench_Image_24 rfl (by decide) rfl rfl rfl (Nat.le_of_ble_eq_true rfl) h (fun μ7 h => ?_)
      refine m_aload_n C dX3_write_100 rfl ?_
      refine m_aload_n C dX3_write_101 rfl ?_
      refine f_getA C dX3_write_102 fl_KilnBench_Image_49 hc_a1 (by decide) (by decide) (by decide) (by decide) ?_
      refine m_iload_n C dX3_write_105 rfl ?_
      obtain ⟨hb, h⟩ := h
      refine f_iald C dX3_write_106 (m_arO (a := 0) (len := 8) hc_a1 rfl) (by decide) hb ?_
      refine f_callVv (As := [vI (μ7 a1 6 l3.toNat)]) (st := []) C dX3_write_107 ml_KilnBench_Image_24 rfl (by decide) rfl rfl rfl (Nat.le_of_ble_eq_true rfl) h (fun μ8 h => ?_)
      refine m_aload_n C dX3_write_110 rfl ?_
      refine m_aload_n C dX3_write_111 rfl ?_
      refine f_getA C dX3_write_112 fl_KilnBench_Image_52 hc_a1 (by decide) (by decide) (by decide) (by decide) ?_
      refine m_iload_n C dX3_write_115 rfl ?_
      obtain ⟨hb, h⟩ := h
      refine f_iald C dX3_write_116 (m_arO (a := 0) (len := 8) hc_a1 rfl) (by decide) hb ?_
      refine f_callVv (As := [vI (μ8 a1 7 l3.toNat)]) (st := []) C dX3_write_117 ml_KilnBench_Image_24 rfl (by decide) rfl rfl rfl (Nat.le_of_ble_eq_true rfl) h (fun μ9 h => ?_)
      refine n_iinc (fun x10 => [some (vR 9 0), some (vR a1 0), some (vR a2 0), some (vI x10), none]) C dX3_write_120 rfl (by decide) (fun _ => rfl) (fun x10 ex10 => ?_)
      have h := h x10 ex10
      refine m_goto (tgt := 45) C dX3_write_123 (by decide) ?_
      exact h
    · have h := h.2 c
      refine m_iconst C dX3_write_62 (by unfold in32; omega) ?_
      refine m_goto (tgt := 67) C dX3_write_63 (by decide) ?_
      refine f_callVv (As := [vI 1]) (st := []) C dX3_write_67 ml_KilnBench_Image_24 rfl (by decide) rfl rfl rfl (Nat.le_of_ble_eq_true rfl) h (fun μ11 h => ?_)
      refine m_aload_n C dX3_write_70 rfl ?_
      refine m_aload_n C dX3_write_71 rfl ?_
      refine f_getA C dX3_write_72 fl_KilnBench_Image_40 hc_a1 (by decide) (by decide) (by decide) (by decide) ?_
      refine m_iload_n C dX3_write_75 rfl ?_
      obtain ⟨hb, h⟩ := h
      refine f_iald C dX3_write_76 (m_arO (a := 0) (len := 8) hc_a1 rfl) (by decide) hb ?_
      refine f_callVv (As := [vI (μ11 a1 3 l3.toNat)]) (st := []) C dX3_write_77 ml_KilnBench_Image_24 rfl (by decide) rfl rfl rfl (Nat.le_of_ble_eq_true rfl) h (fun μ12 h => ?_)
      refine m_aload_n C dX3_write_80 rfl ?_
      refine m_aload_n C dX3_write_81 rfl ?_
      refine f_getA C dX3_write_82 fl_KilnBench_Image_43 hc_a1 (by decide) (by decide) (by decide) (by decide) ?_
      refine m_iload_n C dX3_write_85 rfl ?_
      obtain ⟨hb, h⟩ := h
      refine f_iald C dX3_write_86 (m_arO (a := 0) (len := 8) hc_a1 rfl) (by decide) hb ?_
      refine f_callVv (As := [vI (μ12 a1 4 l3.toNat)]) (st := []) C dX3_write_87 ml_KilnBench_Image_24 rfl (by decide) rfl rfl rfl (Nat.le_of_ble_eq_true rfl) h (fun μ13 h => ?_)
      refine m_aload_n C dX3_write_90 rfl ?_
      refine m_aload_n C dX3_write_91 rfl ?_
      refine f_getA C dX3_write_92 fl_KilnBench_Image_46 hc_a1 (by decide) (by decide) (by decide) (by decide) ?_
      refine m_iload_n C dX3_write_95 rfl ?_
      obtain ⟨hb, h⟩ := h
      refine f_iald C dX3_write_96 (m_arO (a := 0) (len := 8) hc_a1 rfl) (by decide) hb ?_
      refine f_callVv (As := [vI (μ13 a1 5 l3.toNat)]) (st := []) C dX3_write_97 ml_KilnBench_Image_24 rfl (by decide) rfl rfl rfl (Nat.le_of_ble_eq_true rfl) h (fun μ14 h => ?_)
      refine m_aload_n C dX3_write_100 rfl ?_
      refine m_aload_n C dX3_write_101 rfl ?_
      refine f_getA C dX3_write_102 fl_KilnBench_Image_49 hc_a1 (by decide) (by decide) (by decide) (by decide) ?_
      refine m_iload_n C dX3_write_105 rfl ?_
      obtain ⟨hb, h⟩ := h
      refine f_iald C dX3_write_106 (m_arO (a := 0) (len := 8) hc_a1 rfl) (by decide) hb ?_
      refine f_callVv (As := [vI (μ14 a1 6 l3.toNat)]) (st := []) C dX3_write_107 ml_KilnBench_Image_24 rfl (by decide) rfl rfl rfl (Nat.le_of_ble_eq_true rfl) h (fun μ15 h => ?_)
      refine m_aload_n C dX3_write_110 rfl ?_
      refine m_aload_n C dX3_write_111 rfl ?_
      refine f_getA C dX3_write_112 fl_KilnBench_Image_52 hc_a1 (by decide) (by decide) (by decide) (by decide) ?_
      refine m_iload_n C dX3_write_115 rfl ?_
      obtain ⟨hb, h⟩ := h
      refine f_iald C dX3_write_116 (m_arO (a := 0) (len := 8) hc_a1 rfl) (by decide) hb ?_
      refine f_callVv (As := [vI (μ15 a1 7 l3.toNat)]) (st := []) C dX3_write_117 ml_KilnBench_Image_24 rfl (by decide) rfl rfl rfl (Nat.le_of_ble_eq_true rfl) h (fun μ16 h => ?_)
      refine n_iinc (fun x17 => [some (vR 9 0), some (vR a1 0), some (vR a2 0), some (vI x17), none]) C dX3_write_120 rfl (by decide) (fun _ => rfl) (fun x17 ex17 => ?_)
      have h := h x17 ex17
      refine m_goto (tgt := 45) C dX3_write_123 (by decide) ?_
      exact h

set_option maxRecDepth 20000 in
theorem VX3_write_128 {G : m_G} {X : m_X} {d : Nat} {K : m_M → Prop} (C : mC G X YX3_write (d + 1)) (R : r_v G X K) {μ : m_M} {a1 : Nat} {a2 : Nat} {l3 : Int} (hc_a1 : m_cls a1 = 0) (hc_a2 : m_cls a2 = 9)
    (h : ((μ a2 0 6 ≤ l3) → mW G X YX3_write μ 159 [some (vR 9 0), some (vR a1 0), some (vR a2 0), some (vI 241), some (vI 0)] []) ∧ ((¬ μ a2 0 6 ≤ l3) → (0 ≤ l3 ∧ l3 < 3) ∧ c_v G d YX3_put [vR 9 0, vI (μ a1 8 l3.toNat)] μ (fun μ3 => ∀ x4 : Int, x4 = w32 (l3 + 1) → mW G X YX3_write μ3 128 [some (vR 9 0), some (vR a1 0), some (vR a2 0), some (vI x4), none] []))) :
    mW G X YX3_write μ 128 [some (vR 9 0), some (vR a1 0), some (vR a2 0), some (vI l3), none] [] := by
  refine m_iload_n C dX3_write_128 rfl ?_
  refine m_aload_n C dX3_write_129 rfl ?_
  refine f_getI C dX3_write_130 fl_KilnBench_Image_55 hc_a2 (by decide) (by decide) ?_
  refine m_icmp_ge (tgt := 152) C dX3_write_133 (by decide) (fun c => ?_) (fun c => ?_)
  · have h := h.1 c
    refine m_sipush C dX3_write_152 (by omega) ?_
    refine o_istore_n [some (vR 9 0), some (vR a1 0), some (vR a2 0), some (vI 241), none] C dX3_write_155 (by decide) rfl ?_
    refine m_iconst C dX3_write_156 (by unfold in32; omega) ?_
    refine o_istore [some (vR 9 0), some (vR a1 0), some (vR a2 0), some (vI 241), some (vI 0)] C dX3_write_157 (by decide) rfl ?_
    exact h
  · have h := h.2 c
    refine m_aload_n C dX3_write_136 rfl ?_
    refine m_aload_n C dX3_write_137 rfl ?_
    refine f_getA C dX3_write_138 fl_KilnBench_Image_58 hc_a1 (by decide) (by decide) (by decide) (by decide) ?_
    refine m_iload_n C dX3_write_141 rfl ?_
    obtain ⟨hb, h⟩ := h
    refine f_iald C dX3_write_142 (m_arO (a := 0) (len := 3) hc_a1 rfl) (by decide) hb ?_
    refine f_callVv (As := [vI (μ a1 8 l3.toNat)]) (st := []) C dX3_write_143 ml_KilnBench_Image_24 rfl (by decide) rfl rfl rfl (Nat.le_of_ble_eq_true rfl) h (fun μ3 h => ?_)
    refine n_iinc (fun x4 => [some (vR 9 0), some (vR a1 0), some (vR a2 0), some (vI x4), none]) C dX3_write_146 rfl (by decide) (fun _ => rfl) (fun x4 ex4 => ?_)
    have h := h x4 ex4
    refine m_goto (tgt := 128) C dX3_write_149 (by decide) ?_
    exact h

set_option maxRecDepth 20000 in
theorem VX3_write_159 {G : m_G} {X : m_X} {d : Nat} {K : m_M → Prop} (C : mC G X YX3_write (d + 1)) (R : r_v G X K) {μ : m_M} {a1 : Nat} {a2 : Nat} {l3 : Int} {l4 : Int} (hc_a1 : m_cls a1 = 0) (hc_a2 : m_cls a2 = 9)
    (h : ((μ 9 0 1 ≤ l4) → c_v G d YX3_put [vR 9 0, vI l3] μ (fun μ1 => K μ1)) ∧ ((¬ μ 9 0 1 ≤ l4) → (0 ≤ l4 ∧ l4 < 56) ∧ c_i G d YX3_addToCheck [vI l3, vI (μ 9 1 l4.toNat)] μ (fun r3 μ2 => ∀ x5 : Int, x5 = w32 (l4 + 1) → mW G X YX3_write μ2 159 [some (vR 9 0), some (vR a1 0), some (vR a2 0), some (vI r3), some (vI x5)] []))) :
    mW G X YX3_write μ 159 [some (vR 9 0), some (vR a1 0), some (vR a2 0), some (vI l3), some (vI l4)] [] := by
  refine m_iload C dX3_write_159 rfl ?_
  refine m_aload_n C dX3_write_161 rfl ?_
  refine f_getI C dX3_write_162 fl_KilnBench_Image_15 rfl (by decide) (by decide) ?_
  refine m_icmp_ge (tgt := 186) C dX3_write_165 (by decide) (fun c => ?_) (fun c => ?_)
  · have h := h.1 c
    refine m_aload_n C dX3_write_186 rfl ?_
    refine m_iload_n C dX3_write_187 rfl ?_
    refine f_callVv (As := [vI l3]) (st := []) C dX3_write_188 ml_KilnBench_Image_24 rfl (by decide) rfl rfl rfl (Nat.le_of_ble_eq_true rfl) h (fun μ1 h => ?_)
    exact f_vret C R rfl dX3_write_191 h
  · have h := h.2 c
    refine m_iload_n C dX3_write_168 rfl ?_
    refine m_aload_n C dX3_write_169 rfl ?_
    refine f_getA C dX3_write_170 fl_KilnBench_Image_11 rfl (by decide) (by decide) (by decide) (by decide) ?_
    refine m_iload C dX3_write_173 rfl ?_
    obtain ⟨hb, h⟩ := h
    refine f_iald C dX3_write_175 (m_arO (a := 0) (len := 56) rfl rfl) (by decide) hb ?_
    refine f_callSi (As := [vI l3, vI (μ 9 1 l4.toNat)]) (st := []) C dX3_write_176 ml_KilnBench_Image_61 rfl rfl (Nat.le_of_ble_eq_true rfl) h (fun r3 μ2 h => ?_)
    refine o_istore_n [some (vR 9 0), some (vR a1 0), some (vR a2 0), some (vI r3), some (vI l4)] C dX3_write_179 (by decide) rfl ?_
    refine n_iinc (fun x5 => [some (vR 9 0), some (vR a1 0), some (vR a2 0), some (vI r3), some (vI x5)]) C dX3_write_180 rfl (by decide) (fun _ => rfl) (fun x5 ex5 => ?_)
    have h := h x5 ex5
    refine m_goto (tgt := 159) C dX3_write_183 (by decide) ?_
    exact h

set_option maxRecDepth 20000 in
theorem VX3_put_0 {G : m_G} {X : m_X} {d : Nat} {K : m_M → Prop} (C : mC G X YX3_put (d + 1)) (R : r_v G X K) {μ : m_M} {a1 : Int}
    (h : ((56 ≤ μ 9 0 1) → K μ) ∧ ((¬ 56 ≤ μ 9 0 1) → (0 ≤ μ 9 0 1 ∧ μ 9 0 1 < 56) ∧ ∀ μ1 : m_M, μ1 = m_up μ 9 1 (μ 9 0 1).toNat (i_and a1 255) → ∀ μ2 : m_M, μ2 = m_up μ1 9 0 1 (w32 ((μ1 9 0 1) + 1)) → K μ2)) :
    mW G X YX3_put μ 0 [some (vR 9 0), some (vI a1)] [] := by
  refine m_aload_n C dX3_put_0 rfl ?_
  refine f_getI C dX3_put_1 fl_KilnBench_Image_15 rfl (by decide) (by decide) ?_
  refine m_aload_n C dX3_put_4 rfl ?_
  refine f_getA C dX3_put_5 fl_KilnBench_Image_11 rfl (by decide) (by decide) (by decide) (by decide) ?_
  refine f_alen C dX3_put_8 (m_arO (a := 0) (len := 56) rfl rfl) (by decide) (by decide) (by decide) ?_
  refine m_icmp_ge (tgt := 36) C dX3_put_9 (by decide) (fun c => ?_) (fun c => ?_)
  · have h := h.1 c
    exact f_vret C R rfl dX3_put_36 h
  · have h := h.2 c
    refine m_aload_n C dX3_put_12 rfl ?_
    refine f_getA C dX3_put_13 fl_KilnBench_Image_11 rfl (by decide) (by decide) (by decide) (by decide) ?_
    refine m_aload_n C dX3_put_16 rfl ?_
    refine f_getI C dX3_put_17 fl_KilnBench_Image_15 rfl (by decide) (by decide) ?_
    refine m_iload_n C dX3_put_20 rfl ?_
    refine m_sipush C dX3_put_21 (by omega) ?_
    refine m_iand C dX3_put_24 ?_
    obtain ⟨hb, h⟩ := h
    refine f_iast C dX3_put_25 (m_arO (a := 0) (len := 56) rfl rfl) (by decide) hb ?_
    refine n_mem (fun μ1 eμ1 => ?_)
    have h := h μ1 eμ1
    refine m_aload_n C dX3_put_26 rfl ?_
    refine m_dup C dX3_put_27 rfl ?_
    refine f_getI C dX3_put_28 fl_KilnBench_Image_15 rfl (by decide) (by decide) ?_
    refine m_iconst C dX3_put_31 (by unfold in32; omega) ?_
    refine m_iadd C dX3_put_32 ?_
    refine f_putI C dX3_put_33 fl_KilnBench_Image_15 rfl (by decide) (by decide) (by decide) ?_
    refine n_mem (fun μ2 eμ2 => ?_)
    have h := h μ2 eμ2
    exact f_vret C R rfl dX3_put_36 h

set_option maxRecDepth 20000 in
theorem VX3_addToCheck_0 {G : m_G} {X : m_X} {d : Nat} {K : Int → m_M → Prop} (C : mC G X YX3_addToCheck (d + 1)) (R : r_i G X K) {μ : m_M} {a1 : Int} {a2 : Int}
    (h : K ((w32 ((w32 (5 * a1)) + a2)).tmod 251) μ) :
    mW G X YX3_addToCheck μ 0 [some (vI a1), some (vI a2)] [] := by
  refine m_iconst C dX3_addToCheck_0 (by unfold in32; omega) ?_
  refine m_iload_n C dX3_addToCheck_1 rfl ?_
  refine m_imul C dX3_addToCheck_2 ?_
  refine m_iload_n C dX3_addToCheck_3 rfl ?_
  refine m_iadd C dX3_addToCheck_4 ?_
  refine m_sipush C dX3_addToCheck_5 (by omega) ?_
  refine m_irem C dX3_addToCheck_8 (by decide) ?_
  exact f_iret C R rfl dX3_addToCheck_9 h

set_option maxRecDepth 20000 in
theorem VX3_read_0 {G : m_G} {X : m_X} {d : Nat} {K : Int → m_M → Prop} (C : mC G X YX3_read (d + 1)) (R : r_i G X K) {μ : m_M} {a2 : Int} {a3 : Nat} {a4 : Nat} (hc_a3 : m_cls a3 = 9) (hc_a4 : m_cls a4 = 0)
    (h : ∀ x1 : Int, x1 = w32 (4 + (w32 ((μ a3 0 3) * 6))) → ∀ x2 : Int, x2 = w32 (x1 + (μ a3 0 6)) → ((¬ a2 = (w32 (x2 + 1))) → K 0 μ) ∧ ((a2 = w32 (x2 + 1)) → c_i G d YX3_isChecked [vR 1 1, vI x2] μ (fun r4 μ3 => ((¬ r4 = 0) → c_v G d YX0_begin [vR a4 0, vR a3 0] μ3 (fun μ5 => ∀ μ6 : m_M, μ6 = m_up μ5 a4 0 0 (i_or (i_shl (i_and (μ5 1 1 0) 255) 8) (i_and (μ5 1 1 1) 255)) → ∀ μ7 : m_M, μ7 = m_up μ6 a4 0 1 (i_or (i_shl (i_and (μ6 1 1 2) 255) 8) (i_and (μ6 1 1 3) 255)) → ((999 < μ7 a4 0 0) → mW G X YX3_read μ7 123 [some (vR 9 0), some (vR 1 1), some (vI a2), some (vR a3 0), some (vR a4 0), some (vI x1), some (vI x2), some (vI 0), some (vI 0), none] []) ∧ ((¬ 999 < μ7 a4 0 0) → ((9999 < μ7 a4 0 1) → mW G X YX3_read μ7 123 [some (vR 9 0), some (vR 1 1), some (vI a2), some (vR a3 0), some (vR a4 0), some (vI x1), some (vI x2), some (vI 0), some (vI 0), none] []) ∧ ((¬ 9999 < μ7 a4 0 1) → mW G X YX3_read μ7 123 [some (vR 9 0), some (vR 1 1), some (vI a2), some (vR a3 0), some (vR a4 0), some (vI x1), some (vI x2), some (vI 1), some (vI 0), none] [])))) ∧ ((r4 = 0) → K 0 μ3)))) :
    mW G X YX3_read μ 0 [some (vR 9 0), some (vR 1 1), some (vI a2), some (vR a3 0), some (vR a4 0), none, none, none, none, none] [] := by
  refine m_iconst C dX3_read_0 (by unfold in32; omega) ?_
  refine m_aload_n C dX3_read_1 rfl ?_
  refine f_getI C dX3_read_2 fl_KilnBench_Image_31 hc_a3 (by decide) (by decide) ?_
  refine m_bipush C dX3_read_5 (by omega) ?_
  refine m_imul C dX3_read_7 ?_
  refine m_iadd C dX3_read_8 ?_
  refine n_istore (fun x1 => [some (vR 9 0), some (vR 1 1), some (vI a2), some (vR a3 0), some (vR a4 0), some (vI x1), none, none, none, none]) C dX3_read_9 (by decide) (fun _ => rfl) (fun x1 ex1 => ?_)
  have h := h x1 ex1
  refine m_iload C dX3_read_11 rfl ?_
  refine m_aload_n C dX3_read_13 rfl ?_
  refine f_getI C dX3_read_14 fl_KilnBench_Image_55 hc_a3 (by decide) (by decide) ?_
  refine m_iadd C dX3_read_17 ?_
  refine n_istore (fun x2 => [some (vR 9 0), some (vR 1 1), some (vI a2), some (vR a3 0), some (vR a4 0), some (vI x1), some (vI x2), none, none, none]) C dX3_read_18 (by decide) (fun _ => rfl) (fun x2 ex2 => ?_)
  have h := h x2 ex2
  refine m_iload_n C dX3_read_20 rfl ?_
  refine m_iload C dX3_read_21 rfl ?_
  refine m_iconst C dX3_read_23 (by unfold in32; omega) ?_
  refine m_iadd C dX3_read_24 ?_
  refine m_icmp_ne (tgt := 37) C dX3_read_25 (by decide) (fun c => ?_) (fun c => ?_)
  · have h := h.1 c
    refine m_iconst C dX3_read_37 (by unfold in32; omega) ?_
    exact f_zret C R rfl dX3_read_38 (by decide) h
  · have h := h.2 c
    refine m_aload_n C dX3_read_28 rfl ?_
    refine m_iload C dX3_read_29 rfl ?_
    refine f_callSi (As := [vR 1 1, vI x2]) (st := []) C dX3_read_31 ml_KilnBench_Image_65 rfl rfl (Nat.le_of_ble_eq_true rfl) h (fun r4 μ3 h => ?_)
    refine m_if_ne (tgt := 39) C dX3_read_34 (by decide) (fun c => ?_) (fun c => ?_)
    · have h := h.1 c
      refine m_aload C dX3_read_39 rfl ?_
      refine m_aload_n C dX3_read_41 rfl ?_
      refine f_callVv (As := [vR a3 0]) (st := []) C dX3_read_42 ml_KilnBench_Image_69 hc_a4 (by decide) rfl rfl rfl (Nat.le_of_ble_eq_true rfl) h (fun μ5 h => ?_)
      refine m_aload C dX3_read_45 rfl ?_
      refine m_aload_n C dX3_read_47 rfl ?_
      refine m_iconst C dX3_read_48 (by unfold in32; omega) ?_
      refine f_bald C dX3_read_49 (m_arO (a := 1) (len := 1600) rfl rfl) (by decide) (by decide) ?_
      refine m_sipush C dX3_read_50 (by omega) ?_
      refine m_iand C dX3_read_53 ?_
      refine m_bipush C dX3_read_54 (by omega) ?_
      refine m_ishl C dX3_read_56 ?_
      refine m_aload_n C dX3_read_57 rfl ?_
      refine m_iconst C dX3_read_58 (by unfold in32; omega) ?_
      refine f_bald C dX3_read_59 (m_arO (a := 1) (len := 1600) rfl rfl) (by decide) (by decide) ?_
      refine m_sipush C dX3_read_60 (by omega) ?_
      refine m_iand C dX3_read_63 ?_
      refine m_ior C dX3_read_64 ?_
      refine f_putI C dX3_read_65 fl_KilnBench_Image_19 hc_a4 (by decide) (by decide) (by decide) ?_
      refine n_mem (fun μ6 eμ6 => ?_)
      have h := h μ6 eμ6
      refine m_aload C dX3_read_68 rfl ?_
      refine m_aload_n C dX3_read_70 rfl ?_
      refine m_iconst C dX3_read_71 (by unfold in32; omega) ?_
      refine f_bald C dX3_read_72 (m_arO (a := 1) (len := 1600) rfl rfl) (by decide) (by decide) ?_
      refine m_sipush C dX3_read_73 (by omega) ?_
      refine m_iand C dX3_read_76 ?_
      refine m_bipush C dX3_read_77 (by omega) ?_
      refine m_ishl C dX3_read_79 ?_
      refine m_aload_n C dX3_read_80 rfl ?_
      refine m_iconst C dX3_read_81 (by unfold in32; omega) ?_
      refine f_bald C dX3_read_82 (m_arO (a := 1) (len := 1600) rfl rfl) (by decide) (by decide) ?_
      refine m_sipush C dX3_read_83 (by omega) ?_
      refine m_iand C dX3_read_86 ?_
      refine m_ior C dX3_read_87 ?_
      refine f_putI C dX3_read_88 fl_KilnBench_Image_28 hc_a4 (by decide) (by decide) (by decide) ?_
      refine n_mem (fun μ7 eμ7 => ?_)
      have h := h μ7 eμ7
      refine m_aload C dX3_read_91 rfl ?_
      refine f_getI C dX3_read_93 fl_KilnBench_Image_19 hc_a4 (by decide) (by decide) ?_
      refine m_sipush C dX3_read_96 (by omega) ?_
      refine m_icmp_gt (tgt := 117) C dX3_read_99 (by decide) (fun c => ?_) (fun c => ?_)
      · have h := h.1 c
        refine m_iconst C dX3_read_117 (by unfold in32; omega) ?_
        refine o_istore [some (vR 9 0), some (vR 1 1), some (vI a2), some (vR a3 0), some (vR a4 0), some (vI x1), some (vI x2), some (vI 0), none, none] C dX3_read_118 (by decide) rfl ?_
        refine m_iconst C dX3_read_120 (by unfold in32; omega) ?_
        refine o_istore [some (vR 9 0), some (vR 1 1), some (vI a2), some (vR a3 0), some (vR a4 0), some (vI x1), some (vI x2), some (vI 0), some (vI 0), none] C dX3_read_121 (by decide) rfl ?_
        exact h
      · have h := h.2 c
        refine m_aload C dX3_read_102 rfl ?_
        refine f_getI C dX3_read_104 fl_KilnBench_Image_28 hc_a4 (by decide) (by decide) ?_
        refine m_sipush C dX3_read_107 (by omega) ?_
        refine m_icmp_gt (tgt := 117) C dX3_read_110 (by decide) (fun c => ?_) (fun c => ?_)
        · have h := h.1 c
          refine m_iconst C dX3_read_117 (by unfold in32; omega) ?_
          refine o_istore [some (vR 9 0), some (vR 1 1), some (vI a2), some (vR a3 0), some (vR a4 0), some (vI x1), some (vI x2), some (vI 0), none, none] C dX3_read_118 (by decide) rfl ?_
          refine m_iconst C dX3_read_120 (by unfold in32; omega) ?_
          refine o_istore [some (vR 9 0), some (vR 1 1), some (vI a2), some (vR a3 0), some (vR a4 0), some (vI x1), some (vI x2), some (vI 0), some (vI 0), none] C dX3_read_121 (by decide) rfl ?_
          exact h
        · have h := h.2 c
          refine m_iconst C dX3_read_113 (by unfold in32; omega) ?_
          refine m_goto (tgt := 118) C dX3_read_114 (by decide) ?_
          refine o_istore [some (vR 9 0), some (vR 1 1), some (vI a2), some (vR a3 0), some (vR a4 0), some (vI x1), some (vI x2), some (vI 1), none, none] C dX3_read_118 (by decide) rfl ?_
          refine m_iconst C dX3_read_120 (by unfold in32; omega) ?_
          refine o_istore [some (vR 9 0), some (vR 1 1), some (vI a2), some (vR a3 0), some (vR a4 0), some (vI x1), some (vI x2), some (vI 1), some (vI 0), none] C dX3_read_121 (by decide) rfl ?_
          exact h
    · have h := h.2 c
      refine m_iconst C dX3_read_37 (by unfold in32; omega) ?_
      exact f_zret C R rfl dX3_read_38 (by decide) h

set_option maxRecDepth 20000 in
theorem VX3_read_123 {G : m_G} {X : m_X} {d : Nat} {K : Int → m_M → Prop} (C : mC G X YX3_read (d + 1)) (R : r_i G X K) {μ : m_M} {a2 : Int} {a3 : Nat} {a4 : Nat} {l5 : Int} {l6 : Int} {l7 : Int} {l8 : Int} (hc_a3 : m_cls a3 = 9) (hc_a4 : m_cls a4 = 0)
    (h : ((μ a3 0 3 ≤ l8) → mW G X YX3_read μ 164 [some (vR 9 0), some (vR 1 1), some (vI a2), some (vR a3 0), some (vR a4 0), some (vI l5), some (vI l6), some (vI l7), some (vI 0), none] []) ∧ ((¬ μ a3 0 3 ≤ l8) → ((l7 = 0) → mW G X YX3_read μ 164 [some (vR 9 0), some (vR 1 1), some (vI a2), some (vR a3 0), some (vR a4 0), some (vI l5), some (vI l6), some (vI l7), some (vI 0), none] []) ∧ ((¬ l7 = 0) → c_i G d YX3_readChild [vR 1 1, vI (w32 (4 + (w32 (l8 * 6)))), vR a3 0, vR a4 0, vI l8] μ (fun r4 μ3 => ∀ x6 : Int, x6 = w32 (l8 + 1) → mW G X YX3_read μ3 123 [some (vR 9 0), some (vR 1 1), some (vI a2), some (vR a3 0), some (vR a4 0), some (vI l5), some (vI l6), some (vI r4), some (vI x6), none] [])))) :
    mW G X YX3_read μ 123 [some (vR 9 0), some (vR 1 1), some (vI a2), some (vR a3 0), some (vR a4 0), some (vI l5), some (vI l6), some (vI l7), some (vI l8), none] [] := by
  refine m_iload C dX3_read_123 rfl ?_
  refine m_aload_n C dX3_read_125 rfl ?_
  refine f_getI C dX3_read_126 fl_KilnBench_Image_31 hc_a3 (by decide) (by decide) ?_
  refine m_icmp_ge (tgt := 161) C dX3_read_129 (by decide) (fun c => ?_) (fun c => ?_)
  · have h := h.1 c
    refine m_iconst C dX3_read_161 (by unfold in32; omega) ?_
    refine o_istore [some (vR 9 0), some (vR 1 1), some (vI a2), some (vR a3 0), some (vR a4 0), some (vI l5), some (vI l6), some (vI l7), some (vI 0), none] C dX3_read_162 (by decide) rfl ?_
    exact h
  · have h := h.2 c
    refine m_iload C dX3_read_132 rfl ?_
    refine m_if_eq (tgt := 161) C dX3_read_134 (by decide) (fun c => ?_) (fun c => ?_)
    · have h := h.1 c
      refine m_iconst C dX3_read_161 (by unfold in32; omega) ?_
      refine o_istore [some (vR 9 0), some (vR 1 1), some (vI a2), some (vR a3 0), some (vR a4 0), some (vI l5), some (vI l6), some (vI l7), some (vI 0), none] C dX3_read_162 (by decide) rfl ?_
      exact h
    · have h := h.2 c
      refine m_aload_n C dX3_read_137 rfl ?_
      refine m_iconst C dX3_read_138 (by unfold in32; omega) ?_
      refine m_iload C dX3_read_139 rfl ?_
      refine m_bipush C dX3_read_141 (by omega) ?_
      refine m_imul C dX3_read_143 ?_
      refine m_iadd C dX3_read_144 ?_
      refine m_aload_n C dX3_read_145 rfl ?_
      refine m_aload C dX3_read_146 rfl ?_
      refine m_iload C dX3_read_148 rfl ?_
      refine f_callSi (As := [vR 1 1, vI (w32 (4 + (w32 (l8 * 6)))), vR a3 0, vR a4 0, vI l8]) (st := []) C dX3_read_150 ml_KilnBench_Image_73 rfl rfl (Nat.le_of_ble_eq_true rfl) h (fun r4 μ3 h => ?_)
      refine o_istore [some (vR 9 0), some (vR 1 1), some (vI a2), some (vR a3 0), some (vR a4 0), some (vI l5), some (vI l6), some (vI r4), some (vI l8), none] C dX3_read_153 (by decide) rfl ?_
      refine n_iinc (fun x6 => [some (vR 9 0), some (vR 1 1), some (vI a2), some (vR a3 0), some (vR a4 0), some (vI l5), some (vI l6), some (vI r4), some (vI x6), none]) C dX3_read_155 rfl (by decide) (fun _ => rfl) (fun x6 ex6 => ?_)
      have h := h x6 ex6
      refine m_goto (tgt := 123) C dX3_read_158 (by decide) ?_
      exact h

set_option maxRecDepth 20000 in
theorem VX3_read_164 {G : m_G} {X : m_X} {d : Nat} {K : Int → m_M → Prop} (C : mC G X YX3_read (d + 1)) (R : r_i G X K) {μ : m_M} {a2 : Int} {a3 : Nat} {a4 : Nat} {l5 : Int} {l6 : Int} {l7 : Int} {l8 : Int} (hc_a3 : m_cls a3 = 9) (hc_a4 : m_cls a4 = 0)
    (h : ((μ a3 0 6 ≤ l8) → ((l7 = 0) → K 0 μ) ∧ ((¬ l7 = 0) → c_i G d YX3_isStuckBothWays [vR a4 0] μ (fun r2 μ1 => ((r2 = 0) → K 0 μ1) ∧ ((¬ r2 = 0) → K 1 μ1)))) ∧ ((¬ μ a3 0 6 ≤ l8) → ((l7 = 0) → ((l7 = 0) → K 0 μ) ∧ ((¬ l7 = 0) → c_i G d YX3_isStuckBothWays [vR a4 0] μ (fun r4 μ3 => ((r4 = 0) → K 0 μ3) ∧ ((¬ r4 = 0) → K 1 μ3)))) ∧ ((¬ l7 = 0) → (0 ≤ w32 (l5 + l8) ∧ w32 (l5 + l8) < 1600) ∧ c_i G d YX3_byteOrNone [vI (μ 1 1 (w32 (l5 + l8)).toNat)] μ (fun r6 μ5 => (0 ≤ l8 ∧ l8 < 3) ∧ ∀ μ8 : m_M, μ8 = m_up μ5 a4 8 l8.toNat r6 → ((20 < r6) → ∀ x10 : Int, x10 = w32 (l8 + 1) → mW G X YX3_read μ8 164 [some (vR 9 0), some (vR 1 1), some (vI a2), some (vR a3 0), some (vR a4 0), some (vI l5), some (vI l6), some (vI 0), some (vI x10), none] []) ∧ ((¬ 20 < r6) → ∀ x12 : Int, x12 = w32 (l8 + 1) → mW G X YX3_read μ8 164 [some (vR 9 0), some (vR 1 1), some (vI a2), some (vR a3 0), some (vR a4 0), some (vI l5), some (vI l6), some (vI 1), some (vI x12), none] []))))) :
    mW G X YX3_read μ 164 [some (vR 9 0), some (vR 1 1), some (vI a2), some (vR a3 0), some (vR a4 0), some (vI l5), some (vI l6), some (vI l7), some (vI l8), none] [] := by
  refine m_iload C dX3_read_164 rfl ?_
  refine m_aload_n C dX3_read_166 rfl ?_
  refine f_getI C dX3_read_167 fl_KilnBench_Image_55 hc_a3 (by decide) (by decide) ?_
  refine m_icmp_ge (tgt := 220) C dX3_read_170 (by decide) (fun c => ?_) (fun c => ?_)
  · have h := h.1 c
    refine m_iload C dX3_read_220 rfl ?_
    refine m_if_eq (tgt := 237) C dX3_read_222 (by decide) (fun c => ?_) (fun c => ?_)
    · have h := h.1 c
      refine m_iconst C dX3_read_237 (by unfold in32; omega) ?_
      exact f_zret C R rfl dX3_read_238 (by decide) h
    · have h := h.2 c
      refine m_aload C dX3_read_225 rfl ?_
      refine f_callSi (As := [vR a4 0]) (st := []) C dX3_read_227 ml_KilnBench_Image_81 rfl rfl (Nat.le_of_ble_eq_true rfl) h (fun r2 μ1 h => ?_)
      refine m_if_eq (tgt := 237) C dX3_read_230 (by decide) (fun c => ?_) (fun c => ?_)
      · have h := h.1 c
        refine m_iconst C dX3_read_237 (by unfold in32; omega) ?_
        exact f_zret C R rfl dX3_read_238 (by decide) h
      · have h := h.2 c
        refine m_iconst C dX3_read_233 (by unfold in32; omega) ?_
        refine m_goto (tgt := 238) C dX3_read_234 (by decide) ?_
        exact f_zret C R rfl dX3_read_238 (by decide) h
  · have h := h.2 c
    refine m_iload C dX3_read_173 rfl ?_
    refine m_if_eq (tgt := 220) C dX3_read_175 (by decide) (fun c => ?_) (fun c => ?_)
    · have h := h.1 c
      refine m_iload C dX3_read_220 rfl ?_
      refine m_if_eq (tgt := 237) C dX3_read_222 (by decide) (fun c => ?_) (fun c => ?_)
      · have h := h.1 c
        refine m_iconst C dX3_read_237 (by unfold in32; omega) ?_
        exact f_zret C R rfl dX3_read_238 (by decide) h
      · have h := h.2 c
        refine m_aload C dX3_read_225 rfl ?_
        refine f_callSi (As := [vR a4 0]) (st := []) C dX3_read_227 ml_KilnBench_Image_81 rfl rfl (Nat.le_of_ble_eq_true rfl) h (fun r4 μ3 h => ?_)
        refine m_if_eq (tgt := 237) C dX3_read_230 (by decide) (fun c => ?_) (fun c => ?_)
        · have h := h.1 c
          refine m_iconst C dX3_read_237 (by unfold in32; omega) ?_
          exact f_zret C R rfl dX3_read_238 (by decide) h
        · have h := h.2 c
          refine m_iconst C dX3_read_233 (by unfold in32; omega) ?_
          refine m_goto (tgt := 238) C dX3_read_234 (by decide) ?_
          exact f_zret C R rfl dX3_read_238 (by decide) h
    · have h := h.2 c
      refine m_aload_n C dX3_read_178 rfl ?_
      refine m_iload C dX3_read_179 rfl ?_
      refine m_iload C dX3_read_181 rfl ?_
      refine m_iadd C dX3_read_183 ?_
      obtain ⟨hb, h⟩ := h
      refine f_bald C dX3_read_184 (m_arO (a := 1) (len := 1600) rfl rfl) (by decide) hb ?_
      refine f_callSi (As := [vI (μ 1 1 (w32 (l5 + l8)).toNat)]) (st := []) C dX3_read_185 ml_KilnBench_Image_77 rfl rfl (Nat.le_of_ble_eq_true rfl) h (fun r6 μ5 h => ?_)
      refine o_istore [some (vR 9 0), some (vR 1 1), some (vI a2), some (vR a3 0), some (vR a4 0), some (vI l5), some (vI l6), some (vI l7), some (vI l8), some (vI r6)] C dX3_read_188 (by decide) rfl ?_
      refine m_aload C dX3_read_190 rfl ?_
      refine f_getA C dX3_read_192 fl_KilnBench_Image_58 hc_a4 (by decide) (by decide) (by decide) (by decide) ?_
      refine m_iload C dX3_read_195 rfl ?_
      refine m_iload C dX3_read_197 rfl ?_
      obtain ⟨hb, h⟩ := h
      refine f_iast C dX3_read_199 (m_arO (a := 0) (len := 3) hc_a4 rfl) (by decide) hb ?_
      refine n_mem (fun μ8 eμ8 => ?_)
      have h := h μ8 eμ8
      refine m_iload C dX3_read_200 rfl ?_
      refine m_bipush C dX3_read_202 (by omega) ?_
      refine m_icmp_gt (tgt := 211) C dX3_read_204 (by decide) (fun c => ?_) (fun c => ?_)
      · have h := h.1 c
        refine m_iconst C dX3_read_211 (by unfold in32; omega) ?_
        refine o_istore [some (vR 9 0), some (vR 1 1), some (vI a2), some (vR a3 0), some (vR a4 0), some (vI l5), some (vI l6), some (vI 0), some (vI l8), some (vI r6)] C dX3_read_212 (by decide) rfl ?_
        refine n_iinc (fun x10 => [some (vR 9 0), some (vR 1 1), some (vI a2), some (vR a3 0), some (vR a4 0), some (vI l5), some (vI l6), some (vI 0), some (vI x10), some (vI r6)]) C dX3_read_214 rfl (by decide) (fun _ => rfl) (fun x10 ex10 => ?_)
        have h := h x10 ex10
        refine m_goto (tgt := 164) C dX3_read_217 (by decide) ?_
        exact n_weak (le_same (le_same (le_same (le_same (le_same (le_same (le_same (le_same (le_same (le_none le_nil)))))))))) h
      · have h := h.2 c
        refine m_iconst C dX3_read_207 (by unfold in32; omega) ?_
        refine m_goto (tgt := 212) C dX3_read_208 (by decide) ?_
        refine o_istore [some (vR 9 0), some (vR 1 1), some (vI a2), some (vR a3 0), some (vR a4 0), some (vI l5), some (vI l6), some (vI 1), some (vI l8), some (vI r6)] C dX3_read_212 (by decide) rfl ?_
        refine n_iinc (fun x12 => [some (vR 9 0), some (vR 1 1), some (vI a2), some (vR a3 0), some (vR a4 0), some (vI l5), some (vI l6), some (vI 1), some (vI x12), some (vI r6)]) C dX3_read_214 rfl (by decide) (fun _ => rfl) (fun x12 ex12 => ?_)
        have h := h x12 ex12
        refine m_goto (tgt := 164) C dX3_read_217 (by decide) ?_
        exact n_weak (le_same (le_same (le_same (le_same (le_same (le_same (le_same (le_same (le_same (le_none le_nil)))))))))) h

set_option maxRecDepth 20000 in
theorem VX3_isChecked_0 {G : m_G} {X : m_X} {d : Nat} {K : Int → m_M → Prop} (C : mC G X YX3_isChecked (d + 1)) (R : r_i G X K) {μ : m_M} {a2 : Int}
    (h : mW G X YX3_isChecked μ 6 [some (vR 1 1), some (vI a2), some (vI 241), some (vI 0)] []) :
    mW G X YX3_isChecked μ 0 [some (vR 1 1), some (vI a2), none, none] [] := by
  refine m_sipush C dX3_isChecked_0 (by omega) ?_
  refine o_istore_n [some (vR 1 1), some (vI a2), some (vI 241), none] C dX3_isChecked_3 (by decide) rfl ?_
  refine m_iconst C dX3_isChecked_4 (by unfold in32; omega) ?_
  refine o_istore_n [some (vR 1 1), some (vI a2), some (vI 241), some (vI 0)] C dX3_isChecked_5 (by decide) rfl ?_
  exact h

set_option maxRecDepth 20000 in
theorem VX3_isChecked_6 {G : m_G} {X : m_X} {d : Nat} {K : Int → m_M → Prop} (C : mC G X YX3_isChecked (d + 1)) (R : r_i G X K) {μ : m_M} {a2 : Int} {l2 : Int} {l3 : Int}
    (h : ((a2 ≤ l3) → (0 ≤ a2 ∧ a2 < 1600) ∧ ((¬ l2 = (i_and (μ 1 1 a2.toNat) 255)) → K 0 μ) ∧ ((l2 = i_and (μ 1 1 a2.toNat) 255) → K 1 μ)) ∧ ((¬ a2 ≤ l3) → (0 ≤ l3 ∧ l3 < 1600) ∧ c_i G d YX3_addToCheck [vI l2, vI (i_and (μ 1 1 l3.toNat) 255)] μ (fun r2 μ1 => ∀ x4 : Int, x4 = w32 (l3 + 1) → mW G X YX3_isChecked μ1 6 [some (vR 1 1), some (vI a2), some (vI r2), some (vI x4)] []))) :
    mW G X YX3_isChecked μ 6 [some (vR 1 1), some (vI a2), some (vI l2), some (vI l3)] [] := by
  refine m_iload_n C dX3_isChecked_6 rfl ?_
  refine m_iload_n C dX3_isChecked_7 rfl ?_
  refine m_icmp_ge (tgt := 29) C dX3_isChecked_8 (by decide) (fun c => ?_) (fun c => ?_)
  · have h := h.1 c
    refine m_iload_n C dX3_isChecked_29 rfl ?_
    refine m_aload_n C dX3_isChecked_30 rfl ?_
    refine m_iload_n C dX3_isChecked_31 rfl ?_
    obtain ⟨hb, h⟩ := h
    refine f_bald C dX3_isChecked_32 (m_arO (a := 1) (len := 1600) rfl rfl) (by decide) hb ?_
    refine m_sipush C dX3_isChecked_33 (by omega) ?_
    refine m_iand C dX3_isChecked_36 ?_
    refine m_icmp_ne (tgt := 44) C dX3_isChecked_37 (by decide) (fun c => ?_) (fun c => ?_)
    · have h := h.1 c
      refine m_iconst C dX3_isChecked_44 (by unfold in32; omega) ?_
      exact f_zret C R rfl dX3_isChecked_45 (by decide) h
    · have h := h.2 c
      refine m_iconst C dX3_isChecked_40 (by unfold in32; omega) ?_
      refine m_goto (tgt := 45) C dX3_isChecked_41 (by decide) ?_
      exact f_zret C R rfl dX3_isChecked_45 (by decide) h
  · have h := h.2 c
    refine m_iload_n C dX3_isChecked_11 rfl ?_
    refine m_aload_n C dX3_isChecked_12 rfl ?_
    refine m_iload_n C dX3_isChecked_13 rfl ?_
    obtain ⟨hb, h⟩ := h
    refine f_bald C dX3_isChecked_14 (m_arO (a := 1) (len := 1600) rfl rfl) (by decide) hb ?_
    refine m_sipush C dX3_isChecked_15 (by omega) ?_
    refine m_iand C dX3_isChecked_18 ?_
    refine f_callSi (As := [vI l2, vI (i_and (μ 1 1 l3.toNat) 255)]) (st := []) C dX3_isChecked_19 ml_KilnBench_Image_61 rfl rfl (Nat.le_of_ble_eq_true rfl) h (fun r2 μ1 h => ?_)
    refine o_istore_n [some (vR 1 1), some (vI a2), some (vI r2), some (vI l3)] C dX3_isChecked_22 (by decide) rfl ?_
    refine n_iinc (fun x4 => [some (vR 1 1), some (vI a2), some (vI r2), some (vI x4)]) C dX3_isChecked_23 rfl (by decide) (fun _ => rfl) (fun x4 ex4 => ?_)
    have h := h x4 ex4
    refine m_goto (tgt := 6) C dX3_isChecked_26 (by decide) ?_
    exact h

set_option maxRecDepth 20000 in
theorem VX3_byteOrNone_0 {G : m_G} {X : m_X} {d : Nat} {K : Int → m_M → Prop} (C : mC G X YX3_byteOrNone (d + 1)) (R : r_i G X K) {μ : m_M} {a1 : Int}
    (h : ∀ x1 : Int, x1 = i_and a1 255 → ((¬ x1 = 255) → K x1 μ) ∧ ((x1 = 255) → K (-1) μ)) :
    mW G X YX3_byteOrNone μ 0 [some (vI a1), none] [] := by
  refine m_iload_n C dX3_byteOrNone_0 rfl ?_
  refine m_sipush C dX3_byteOrNone_1 (by omega) ?_
  refine m_iand C dX3_byteOrNone_4 ?_
  refine n_istore_n (fun x1 => [some (vI a1), some (vI x1)]) C dX3_byteOrNone_5 (by decide) (fun _ => rfl) (fun x1 ex1 => ?_)
  have h := h x1 ex1
  refine m_iload_n C dX3_byteOrNone_6 rfl ?_
  refine m_sipush C dX3_byteOrNone_7 (by omega) ?_
  refine m_icmp_ne (tgt := 17) C dX3_byteOrNone_10 (by decide) (fun c => ?_) (fun c => ?_)
  · have h := h.1 c
    refine m_iload_n C dX3_byteOrNone_17 rfl ?_
    exact f_iret C R rfl dX3_byteOrNone_18 h
  · have h := h.2 c
    refine m_iconst C dX3_byteOrNone_13 (by unfold in32; omega) ?_
    refine m_goto (tgt := 18) C dX3_byteOrNone_14 (by decide) ?_
    exact f_iret C R rfl dX3_byteOrNone_18 h

set_option maxRecDepth 20000 in
theorem VX3_readChild_0 {G : m_G} {X : m_X} {d : Nat} {K : Int → m_M → Prop} (C : mC G X YX3_readChild (d + 1)) (R : r_i G X K) {μ : m_M} {a2 : Int} {a3 : Nat} {a4 : Nat} {a5 : Int} (hc_a3 : m_cls a3 = 9) (hc_a4 : m_cls a4 = 0)
    (h : (0 ≤ w32 (a2 + 1) ∧ w32 (a2 + 1) < 1600) ∧ c_i G d YX3_byteOrNone [vI (μ 1 1 (w32 (a2 + 1)).toNat)] μ (fun r2 μ1 => (0 ≤ w32 (a2 + 2) ∧ w32 (a2 + 2) < 1600) ∧ c_i G d YX3_byteOrNone [vI (μ1 1 1 (w32 (a2 + 2)).toNat)] μ1 (fun r5 μ4 => (0 ≤ w32 (a2 + 3) ∧ w32 (a2 + 3) < 1600) ∧ c_i G d YX3_byteOrNone [vI (μ4 1 1 (w32 (a2 + 3)).toNat)] μ4 (fun r8 μ7 => (0 ≤ w32 (a2 + 4) ∧ w32 (a2 + 4) < 1600) ∧ ∀ x10 : Int, x10 = i_and (μ7 1 1 (w32 (a2 + 4)).toNat) 255 → (0 ≤ w32 (a2 + 5) ∧ w32 (a2 + 5) < 1600) ∧ ∀ x11 : Int, x11 = i_and (μ7 1 1 (w32 (a2 + 5)).toNat) 255 → ((¬ r2 = (-1)) → mW G X YX3_readChild μ7 68 [some (vR 1 1), some (vI a2), some (vR a3 0), some (vR a4 0), some (vI a5), some (vI r2), some (vI r5), some (vI r8), some (vI x10), some (vI x11), none, none, none] []) ∧ ((r2 = (-1)) → ((¬ r5 = (-1)) → mW G X YX3_readChild μ7 68 [some (vR 1 1), some (vI a2), some (vR a3 0), some (vR a4 0), some (vI a5), some (vI r2), some (vI r5), some (vI r8), some (vI x10), some (vI x11), none, none, none] []) ∧ ((r5 = (-1)) → (0 ≤ a2 ∧ a2 < 1600) ∧ ((¬ (μ7 1 1 a2.toNat) = 0) → ((r8 = (-1)) → mW G X YX3_readChild μ7 149 [some (vR 1 1), some (vI a2), some (vR a3 0), some (vR a4 0), some (vI a5), some (vI r2), some (vI r5), some (vI r8), some (vI x10), some (vI x11), some (vI 1), none, none] []) ∧ ((¬ r8 = (-1)) → ((99 < r8) → mW G X YX3_readChild μ7 149 [some (vR 1 1), some (vI a2), some (vR a3 0), some (vR a4 0), some (vI a5), some (vI r2), some (vI r5), some (vI r8), some (vI x10), some (vI x11), some (vI 1), none, none] []) ∧ ((¬ 99 < r8) → (0 ≤ a2 ∧ a2 < 1600) ∧ ((¬ (μ7 1 1 a2.toNat) = 1) → mW G X YX3_readChild μ7 179 [some (vR 1 1), some (vI a2), some (vR a3 0), some (vR a4 0), some (vI a5), some (vI r2), some (vI r5), some (vI r8), some (vI x10), some (vI x11), some (vI 1), none, some (vI 1)] []) ∧ ((μ7 1 1 a2.toNat = 1) → ((1 < x10) → mW G X YX3_readChild μ7 179 [some (vR 1 1), some (vI a2), some (vR a3 0), some (vR a4 0), some (vI a5), some (vI r2), some (vI r5), some (vI r8), some (vI x10), some (vI x11), some (vI 1), none, some (vI 1)] []) ∧ ((¬ 1 < x10) → mW G X YX3_readChild μ7 182 [some (vR 1 1), some (vI a2), some (vR a3 0), some (vR a4 0), some (vI a5), some (vI r2), some (vI r5), some (vI r8), some (vI x10), some (vI x11), some (vI 1), some (vI 1), some (vI 1)] []))))) ∧ ((μ7 1 1 a2.toNat = 0) → mW G X YX3_readChild μ7 94 [some (vR 1 1), some (vI a2), some (vR a3 0), some (vR a4 0), some (vI a5), some (vI r2), some (vI r5), some (vI r8), some (vI x10), some (vI x11), some (vI 1), none, none] []))))))) :
    mW G X YX3_readChild μ 0 [some (vR 1 1), some (vI a2), some (vR a3 0), some (vR a4 0), some (vI a5), none, none, none, none, none, none, none, none] [] := by
  refine m_aload_n C dX3_readChild_0 rfl ?_
  refine m_iload_n C dX3_readChild_1 rfl ?_
  refine m_iconst C dX3_readChild_2 (by unfold in32; omega) ?_
  refine m_iadd C dX3_readChild_3 ?_
  obtain ⟨hb, h⟩ := h
  refine f_bald C dX3_readChild_4 (m_arO (a := 1) (len := 1600) rfl rfl) (by decide) hb ?_
  refine f_callSi (As := [vI (μ 1 1 (w32 (a2 + 1)).toNat)]) (st := []) C dX3_readChild_5 ml_KilnBench_Image_77 rfl rfl (Nat.le_of_ble_eq_true rfl) h (fun r2 μ1 h => ?_)
  refine o_istore [some (vR 1 1), some (vI a2), some (vR a3 0), some (vR a4 0), some (vI a5), some (vI r2), none, none, none, none, none, none, none] C dX3_readChild_8 (by decide) rfl ?_
  refine m_aload_n C dX3_readChild_10 rfl ?_
  refine m_iload_n C dX3_readChild_11 rfl ?_
  refine m_iconst C dX3_readChild_12 (by unfold in32; omega) ?_
  refine m_iadd C dX3_readChild_13 ?_
  obtain ⟨hb, h⟩ := h
  refine f_bald C dX3_readChild_14 (m_arO (a := 1) (len := 1600) rfl rfl) (by decide) hb ?_
  refine f_callSi (As := [vI (μ1 1 1 (w32 (a2 + 2)).toNat)]) (st := []) C dX3_readChild_15 ml_KilnBench_Image_77 rfl rfl (Nat.le_of_ble_eq_true rfl) h (fun r5 μ4 h => ?_)
  refine o_istore [some (vR 1 1), some (vI a2), some (vR a3 0), some (vR a4 0), some (vI a5), some (vI r2), some (vI r5), none, none, none, none, none, none] C dX3_readChild_18 (by decide) rfl ?_
  refine m_aload_n C dX3_readChild_20 rfl ?_
  refine m_iload_n C dX3_readChild_21 rfl ?_
  refine m_iconst C dX3_readChild_22 (by unfold in32; omega) ?_
  refine m_iadd C dX3_readChild_23 ?_
  obtain ⟨hb, h⟩ := h
  refine f_bald C dX3_readChild_24 (m_arO (a := 1) (len := 1600) rfl rfl) (by decide) hb ?_
  refine f_callSi (As := [vI (μ4 1 1 (w32 (a2 + 3)).toNat)]) (st := []) C dX3_readChild_25 ml_KilnBench_Image_77 rfl rfl (Nat.le_of_ble_eq_true rfl) h (fun r8 μ7 h => ?_)
  refine o_istore [some (vR 1 1), some (vI a2), some (vR a3 0), some (vR a4 0), some (vI a5), some (vI r2), some (vI r5), some (vI r8), none, none, none, none, none] C dX3_readChild_28 (by decide) rfl ?_
  refine m_aload_n C dX3_readChild_30 rfl ?_
  refine m_iload_n C dX3_readChild_31 rfl ?_
  refine m_iconst C dX3_readChild_32 (by unfold in32; omega) ?_
  refine m_iadd C dX3_readChild_33 ?_
  obtain ⟨hb, h⟩ := h
  refine f_bald C dX3_readChild_34 (m_arO (a := 1) (len := 1600) rfl rfl) (by decide) hb ?_
  refine m_sipush C dX3_readChild_35 (by omega) ?_
  refine m_iand C dX3_readChild_38 ?_
  refine n_istore (fun x10 => [some (vR 1 1), some (vI a2), some (vR a3 0), some (vR a4 0), some (vI a5), some (vI r2), some (vI r5), some (vI r8), some (vI x10), none, none, none, none]) C dX3_readChild_39 (by decide) (fun _ => rfl) (fun x10 ex10 => ?_)
  have h := h x10 ex10
  refine m_aload_n C dX3_readChild_41 rfl ?_
  refine m_iload_n C dX3_readChild_42 rfl ?_
  refine m_iconst C dX3_readChild_43 (by unfold in32; omega) ?_
  refine m_iadd C dX3_readChild_44 ?_
  obtain ⟨hb, h⟩ := h
  refine f_bald C dX3_readChild_45 (m_arO (a := 1) (len := 1600) rfl rfl) (by decide) hb ?_
  refine m_sipush C dX3_readChild_46 (by omega) ?_
  refine m_iand C dX3_readChild_49 ?_
  refine n_istore (fun x11 => [some (vR 1 1), some (vI a2), some (vR a3 0), some (vR a4 0), some (vI a5), some (vI r2), some (vI r5), some (vI r8), some (vI x10), some (vI x11), none, none, none]) C dX3_readChild_50 (by decide) (fun _ => rfl) (fun x11 ex11 => ?_)
  have h := h x11 ex11
  refine m_iload C dX3_readChild_52 rfl ?_
  refine m_iconst C dX3_readChild_54 (by unfold in32; omega) ?_
  refine m_icmp_ne (tgt := 68) C dX3_readChild_55 (by decide) (fun c => ?_) (fun c => ?_)
  · have h := h.1 c
    exact h
  · have h := h.2 c
    refine m_iload C dX3_readChild_58 rfl ?_
    refine m_iconst C dX3_readChild_60 (by unfold in32; omega) ?_
    refine m_icmp_ne (tgt := 68) C dX3_readChild_61 (by decide) (fun c => ?_) (fun c => ?_)
    · have h := h.1 c
      exact h
    · have h := h.2 c
      refine m_iconst C dX3_readChild_64 (by unfold in32; omega) ?_
      refine m_goto (tgt := 69) C dX3_readChild_65 (by decide) ?_
      refine o_istore [some (vR 1 1), some (vI a2), some (vR a3 0), some (vR a4 0), some (vI a5), some (vI r2), some (vI r5), some (vI r8), some (vI x10), some (vI x11), some (vI 1), none, none] C dX3_readChild_69 (by decide) rfl ?_
      refine m_aload_n C dX3_readChild_71 rfl ?_
      refine m_iload_n C dX3_readChild_72 rfl ?_
      obtain ⟨hb, h⟩ := h
      refine f_bald C dX3_readChild_73 (m_arO (a := 1) (len := 1600) rfl rfl) (by decide) hb ?_
      refine m_if_ne (tgt := 132) C dX3_readChild_74 (by decide) (fun c => ?_) (fun c => ?_)
      · have h := h.1 c
        refine m_iload C dX3_readChild_132 rfl ?_
        refine m_iconst C dX3_readChild_134 (by unfold in32; omega) ?_
        refine m_icmp_eq (tgt := 149) C dX3_readChild_135 (by decide) (fun c => ?_) (fun c => ?_)
        · have h := h.1 c
          exact h
        · have h := h.2 c
          refine m_iload C dX3_readChild_138 rfl ?_
          refine m_bipush C dX3_readChild_140 (by omega) ?_
          refine m_icmp_gt (tgt := 149) C dX3_readChild_142 (by decide) (fun c => ?_) (fun c => ?_)
          · have h := h.1 c
            exact h
          · have h := h.2 c
            refine m_iconst C dX3_readChild_145 (by unfold in32; omega) ?_
            refine m_goto (tgt := 150) C dX3_readChild_146 (by decide) ?_
            refine o_istore [some (vR 1 1), some (vI a2), some (vR a3 0), some (vR a4 0), some (vI a5), some (vI r2), some (vI r5), some (vI r8), some (vI x10), some (vI x11), some (vI 1), none, some (vI 1)] C dX3_readChild_150 (by decide) rfl ?_
            refine m_aload_n C dX3_readChild_152 rfl ?_
            refine m_iload_n C dX3_readChild_153 rfl ?_
            obtain ⟨hb, h⟩ := h
            refine f_bald C dX3_readChild_154 (m_arO (a := 1) (len := 1600) rfl rfl) (by decide) hb ?_
            refine m_iconst C dX3_readChild_155 (by unfold in32; omega) ?_
            refine m_icmp_ne (tgt := 179) C dX3_readChild_156 (by decide) (fun c => ?_) (fun c => ?_)
            · have h := h.1 c
              exact h
            · have h := h.2 c
              refine m_iload C dX3_readChild_159 rfl ?_
              refine m_if_eq (tgt := 179) C dX3_readChild_161 (by decide) (fun c => absurd c (by decide)) (fun c => ?_)
              refine m_iload C dX3_readChild_164 rfl ?_
              refine m_if_eq (tgt := 179) C dX3_readChild_166 (by decide) (fun c => absurd c (by decide)) (fun c => ?_)
              refine m_iload C dX3_readChild_169 rfl ?_
              refine m_iconst C dX3_readChild_171 (by unfold in32; omega) ?_
              refine m_icmp_gt (tgt := 179) C dX3_readChild_172 (by decide) (fun c => ?_) (fun c => ?_)
              · have h := h.1 c
                exact h
              · have h := h.2 c
                refine m_iconst C dX3_readChild_175 (by unfold in32; omega) ?_
                refine m_goto (tgt := 180) C dX3_readChild_176 (by decide) ?_
                refine o_istore [some (vR 1 1), some (vI a2), some (vR a3 0), some (vR a4 0), some (vI a5), some (vI r2), some (vI r5), some (vI r8), some (vI x10), some (vI x11), some (vI 1), some (vI 1), some (vI 1)] C dX3_readChild_180 (by decide) rfl ?_
                exact h
      · have h := h.2 c
        refine m_iload C dX3_readChild_77 rfl ?_
        refine m_if_ne (tgt := 94) C dX3_readChild_79 (by decide) (fun c => ?_) (fun c => absurd c (by decide))
        exact h

set_option maxRecDepth 20000 in
theorem VX3_readChild_68 {G : m_G} {X : m_X} {d : Nat} {K : Int → m_M → Prop} (C : mC G X YX3_readChild (d + 1)) (R : r_i G X K) {μ : m_M} {a2 : Int} {a3 : Nat} {a4 : Nat} {a5 : Int} {l5 : Int} {l6 : Int} {l7 : Int} {l8 : Int} {l9 : Int} (hc_a3 : m_cls a3 = 9) (hc_a4 : m_cls a4 = 0)
    (h : (0 ≤ a2 ∧ a2 < 1600) ∧ ((¬ (μ 1 1 a2.toNat) = 0) → ((l7 = (-1)) → mW G X YX3_readChild μ 149 [some (vR 1 1), some (vI a2), some (vR a3 0), some (vR a4 0), some (vI a5), some (vI l5), some (vI l6), some (vI l7), some (vI l8), some (vI l9), some (vI 0), none, none] []) ∧ ((¬ l7 = (-1)) → ((99 < l7) → mW G X YX3_readChild μ 149 [some (vR 1 1), some (vI a2), some (vR a3 0), some (vR a4 0), some (vI a5), some (vI l5), some (vI l6), some (vI l7), some (vI l8), some (vI l9), some (vI 0), none, none] []) ∧ ((¬ 99 < l7) → (0 ≤ a2 ∧ a2 < 1600) ∧ ((¬ (μ 1 1 a2.toNat) = 1) → mW G X YX3_readChild μ 179 [some (vR 1 1), some (vI a2), some (vR a3 0), some (vR a4 0), some (vI a5), some (vI l5), some (vI l6), some (vI l7), some (vI l8), some (vI l9), some (vI 0), none, some (vI 1)] []) ∧ ((μ 1 1 a2.toNat = 1) → mW G X YX3_readChild μ 179 [some (vR 1 1), some (vI a2), some (vR a3 0), some (vR a4 0), some (vI a5), some (vI l5), some (vI l6), some (vI l7), some (vI l8), some (vI l9), some (vI 0), none, some (vI 1)] [])))) ∧ ((μ 1 1 a2.toNat = 0) → c_i G d YX3_isFree [vR a3 0, vR a4 0, vI l5, vI l6] μ (fun r4 μ3 => ((r4 = 0) → mW G X YX3_readChild μ3 126 [some (vR 1 1), some (vI a2), some (vR a3 0), some (vR a4 0), some (vI a5), some (vI l5), some (vI l6), some (vI l7), some (vI l8), some (vI l9), some (vI 0), none, some (vI 0)] []) ∧ ((¬ r4 = 0) → mW G X YX3_readChild μ3 94 [some (vR 1 1), some (vI a2), some (vR a3 0), some (vR a4 0), some (vI a5), some (vI l5), some (vI l6), some (vI l7), some (vI l8), some (vI l9), some (vI 0), none, none] [])))) :
    mW G X YX3_readChild μ 68 [some (vR 1 1), some (vI a2), some (vR a3 0), some (vR a4 0), some (vI a5), some (vI l5), some (vI l6), some (vI l7), some (vI l8), some (vI l9), none, none, none] [] := by
  refine m_iconst C dX3_readChild_68 (by unfold in32; omega) ?_
  refine o_istore [some (vR 1 1), some (vI a2), some (vR a3 0), some (vR a4 0), some (vI a5), some (vI l5), some (vI l6), some (vI l7), some (vI l8), some (vI l9), some (vI 0), none, none] C dX3_readChild_69 (by decide) rfl ?_
  refine m_aload_n C dX3_readChild_71 rfl ?_
  refine m_iload_n C dX3_readChild_72 rfl ?_
  obtain ⟨hb, h⟩ := h
  refine f_bald C dX3_readChild_73 (m_arO (a := 1) (len := 1600) rfl rfl) (by decide) hb ?_
  refine m_if_ne (tgt := 132) C dX3_readChild_74 (by decide) (fun c => ?_) (fun c => ?_)
  · have h := h.1 c
    refine m_iload C dX3_readChild_132 rfl ?_
    refine m_iconst C dX3_readChild_134 (by unfold in32; omega) ?_
    refine m_icmp_eq (tgt := 149) C dX3_readChild_135 (by decide) (fun c => ?_) (fun c => ?_)
    · have h := h.1 c
      exact h
    · have h := h.2 c
      refine m_iload C dX3_readChild_138 rfl ?_
      refine m_bipush C dX3_readChild_140 (by omega) ?_
      refine m_icmp_gt (tgt := 149) C dX3_readChild_142 (by decide) (fun c => ?_) (fun c => ?_)
      · have h := h.1 c
        exact h
      · have h := h.2 c
        refine m_iconst C dX3_readChild_145 (by unfold in32; omega) ?_
        refine m_goto (tgt := 150) C dX3_readChild_146 (by decide) ?_
        refine o_istore [some (vR 1 1), some (vI a2), some (vR a3 0), some (vR a4 0), some (vI a5), some (vI l5), some (vI l6), some (vI l7), some (vI l8), some (vI l9), some (vI 0), none, some (vI 1)] C dX3_readChild_150 (by decide) rfl ?_
        refine m_aload_n C dX3_readChild_152 rfl ?_
        refine m_iload_n C dX3_readChild_153 rfl ?_
        obtain ⟨hb, h⟩ := h
        refine f_bald C dX3_readChild_154 (m_arO (a := 1) (len := 1600) rfl rfl) (by decide) hb ?_
        refine m_iconst C dX3_readChild_155 (by unfold in32; omega) ?_
        refine m_icmp_ne (tgt := 179) C dX3_readChild_156 (by decide) (fun c => ?_) (fun c => ?_)
        · have h := h.1 c
          exact h
        · have h := h.2 c
          refine m_iload C dX3_readChild_159 rfl ?_
          refine m_if_eq (tgt := 179) C dX3_readChild_161 (by decide) (fun c => ?_) (fun c => absurd c (by decide))
          exact h
  · have h := h.2 c
    refine m_iload C dX3_readChild_77 rfl ?_
    refine m_if_ne (tgt := 94) C dX3_readChild_79 (by decide) (fun c => absurd c (by decide)) (fun c => ?_)
    refine m_aload_n C dX3_readChild_82 rfl ?_
    refine m_aload_n C dX3_readChild_83 rfl ?_
    refine m_iload C dX3_readChild_84 rfl ?_
    refine m_iload C dX3_readChild_86 rfl ?_
    refine f_callSi (As := [vR a3 0, vR a4 0, vI l5, vI l6]) (st := []) C dX3_readChild_88 ml_KilnBench_Image_85 rfl rfl (Nat.le_of_ble_eq_true rfl) h (fun r4 μ3 h => ?_)
    refine m_if_eq (tgt := 98) C dX3_readChild_91 (by decide) (fun c => ?_) (fun c => ?_)
    · have h := h.1 c
      refine m_iconst C dX3_readChild_98 (by unfold in32; omega) ?_
      refine o_istore [some (vR 1 1), some (vI a2), some (vR a3 0), some (vR a4 0), some (vI a5), some (vI l5), some (vI l6), some (vI l7), some (vI l8), some (vI l9), some (vI 0), none, some (vI 0)] C dX3_readChild_99 (by decide) rfl ?_
      refine m_iload C dX3_readChild_101 rfl ?_
      refine m_if_eq (tgt := 126) C dX3_readChild_103 (by decide) (fun c => ?_) (fun c => absurd c (by decide))
      exact h
    · have h := h.2 c
      exact h

set_option maxRecDepth 20000 in
theorem VX3_readChild_94 {G : m_G} {X : m_X} {d : Nat} {K : Int → m_M → Prop} (C : mC G X YX3_readChild (d + 1)) (R : r_i G X K) {μ : m_M} {a2 : Int} {a3 : Nat} {a4 : Nat} {a5 : Int} {l5 : Int} {l6 : Int} {l7 : Int} {l8 : Int} {l9 : Int} {l10 : Int} (hc_a3 : m_cls a3 = 9) (hc_a4 : m_cls a4 = 0)
    (h : ((¬ l7 = (-1)) → mW G X YX3_readChild μ 126 [some (vR 1 1), some (vI a2), some (vR a3 0), some (vR a4 0), some (vI a5), some (vI l5), some (vI l6), some (vI l7), some (vI l8), some (vI l9), some (vI l10), none, some (vI 1)] []) ∧ ((l7 = (-1)) → ((¬ l8 = 0) → mW G X YX3_readChild μ 126 [some (vR 1 1), some (vI a2), some (vR a3 0), some (vR a4 0), some (vI a5), some (vI l5), some (vI l6), some (vI l7), some (vI l8), some (vI l9), some (vI l10), none, some (vI 1)] []) ∧ ((l8 = 0) → ((¬ l9 = 0) → mW G X YX3_readChild μ 126 [some (vR 1 1), some (vI a2), some (vR a3 0), some (vR a4 0), some (vI a5), some (vI l5), some (vI l6), some (vI l7), some (vI l8), some (vI l9), some (vI l10), none, some (vI 1)] []) ∧ ((l9 = 0) → mW G X YX3_readChild μ 182 [some (vR 1 1), some (vI a2), some (vR a3 0), some (vR a4 0), some (vI a5), some (vI l5), some (vI l6), some (vI l7), some (vI l8), some (vI l9), some (vI l10), some (vI 1), some (vI 1)] [])))) :
    mW G X YX3_readChild μ 94 [some (vR 1 1), some (vI a2), some (vR a3 0), some (vR a4 0), some (vI a5), some (vI l5), some (vI l6), some (vI l7), some (vI l8), some (vI l9), some (vI l10), none, none] [] := by
  refine m_iconst C dX3_readChild_94 (by unfold in32; omega) ?_
  refine m_goto (tgt := 99) C dX3_readChild_95 (by decide) ?_
  refine o_istore [some (vR 1 1), some (vI a2), some (vR a3 0), some (vR a4 0), some (vI a5), some (vI l5), some (vI l6), some (vI l7), some (vI l8), some (vI l9), some (vI l10), none, some (vI 1)] C dX3_readChild_99 (by decide) rfl ?_
  refine m_iload C dX3_readChild_101 rfl ?_
  refine m_if_eq (tgt := 126) C dX3_readChild_103 (by decide) (fun c => absurd c (by decide)) (fun c => ?_)
  refine m_iload C dX3_readChild_106 rfl ?_
  refine m_iconst C dX3_readChild_108 (by unfold in32; omega) ?_
  refine m_icmp_ne (tgt := 126) C dX3_readChild_109 (by decide) (fun c => ?_) (fun c => ?_)
  · have h := h.1 c
    exact h
  · have h := h.2 c
    refine m_iload C dX3_readChild_112 rfl ?_
    refine m_if_ne (tgt := 126) C dX3_readChild_114 (by decide) (fun c => ?_) (fun c => ?_)
    · have h := h.1 c
      exact h
    · have h := h.2 c
      refine m_iload C dX3_readChild_117 rfl ?_
      refine m_if_ne (tgt := 126) C dX3_readChild_119 (by decide) (fun c => ?_) (fun c => ?_)
      · have h := h.1 c
        exact h
      · have h := h.2 c
        refine m_iconst C dX3_readChild_122 (by unfold in32; omega) ?_
        refine m_goto (tgt := 127) C dX3_readChild_123 (by decide) ?_
        refine o_istore [some (vR 1 1), some (vI a2), some (vR a3 0), some (vR a4 0), some (vI a5), some (vI l5), some (vI l6), some (vI l7), some (vI l8), some (vI l9), some (vI l10), some (vI 1), some (vI 1)] C dX3_readChild_127 (by decide) rfl ?_
        refine m_goto (tgt := 182) C dX3_readChild_129 (by decide) ?_
        exact h

set_option maxRecDepth 20000 in
theorem VX3_readChild_126 {G : m_G} {X : m_X} {d : Nat} {K : Int → m_M → Prop} (C : mC G X YX3_readChild (d + 1)) (R : r_i G X K) {μ : m_M} {a2 : Int} {a3 : Nat} {a4 : Nat} {a5 : Int} {l5 : Int} {l6 : Int} {l7 : Int} {l8 : Int} {l9 : Int} {l10 : Int} {l12 : Int} (hc_a3 : m_cls a3 = 9) (hc_a4 : m_cls a4 = 0)
    (h : mW G X YX3_readChild μ 182 [some (vR 1 1), some (vI a2), some (vR a3 0), some (vR a4 0), some (vI a5), some (vI l5), some (vI l6), some (vI l7), some (vI l8), some (vI l9), some (vI l10), some (vI 0), some (vI l12)] []) :
    mW G X YX3_readChild μ 126 [some (vR 1 1), some (vI a2), some (vR a3 0), some (vR a4 0), some (vI a5), some (vI l5), some (vI l6), some (vI l7), some (vI l8), some (vI l9), some (vI l10), none, some (vI l12)] [] := by
  refine m_iconst C dX3_readChild_126 (by unfold in32; omega) ?_
  refine o_istore [some (vR 1 1), some (vI a2), some (vR a3 0), some (vR a4 0), some (vI a5), some (vI l5), some (vI l6), some (vI l7), some (vI l8), some (vI l9), some (vI l10), some (vI 0), some (vI l12)] C dX3_readChild_127 (by decide) rfl ?_
  refine m_goto (tgt := 182) C dX3_readChild_129 (by decide) ?_
  exact h

set_option maxRecDepth 20000 in
theorem VX3_readChild_149 {G : m_G} {X : m_X} {d : Nat} {K : Int → m_M → Prop} (C : mC G X YX3_readChild (d + 1)) (R : r_i G X K) {μ : m_M} {a2 : Int} {a3 : Nat} {a4 : Nat} {a5 : Int} {l5 : Int} {l6 : Int} {l7 : Int} {l8 : Int} {l9 : Int} {l10 : Int} (hc_a3 : m_cls a3 = 9) (hc_a4 : m_cls a4 = 0)
    (h : (0 ≤ a2 ∧ a2 < 1600) ∧ ((¬ (μ 1 1 a2.toNat) = 1) → mW G X YX3_readChild μ 179 [some (vR 1 1), some (vI a2), some (vR a3 0), some (vR a4 0), some (vI a5), some (vI l5), some (vI l6), some (vI l7), some (vI l8), some (vI l9), some (vI l10), none, some (vI 0)] []) ∧ ((μ 1 1 a2.toNat = 1) → ((l10 = 0) → mW G X YX3_readChild μ 179 [some (vR 1 1), some (vI a2), some (vR a3 0), some (vR a4 0), some (vI a5), some (vI l5), some (vI l6), some (vI l7), some (vI l8), some (vI l9), some (vI l10), none, some (vI 0)] []) ∧ ((¬ l10 = 0) → mW G X YX3_readChild μ 179 [some (vR 1 1), some (vI a2), some (vR a3 0), some (vR a4 0), some (vI a5), some (vI l5), some (vI l6), some (vI l7), some (vI l8), some (vI l9), some (vI l10), none, some (vI 0)] []))) :
    mW G X YX3_readChild μ 149 [some (vR 1 1), some (vI a2), some (vR a3 0), some (vR a4 0), some (vI a5), some (vI l5), some (vI l6), some (vI l7), some (vI l8), some (vI l9), some (vI l10), none, none] [] := by
  refine m_iconst C dX3_readChild_149 (by unfold in32; omega) ?_
  refine o_istore [some (vR 1 1), some (vI a2), some (vR a3 0), some (vR a4 0), some (vI a5), some (vI l5), some (vI l6), some (vI l7), some (vI l8), some (vI l9), some (vI l10), none, some (vI 0)] C dX3_readChild_150 (by decide) rfl ?_
  refine m_aload_n C dX3_readChild_152 rfl ?_
  refine m_iload_n C dX3_readChild_153 rfl ?_
  obtain ⟨hb, h⟩ := h
  refine f_bald C dX3_readChild_154 (m_arO (a := 1) (len := 1600) rfl rfl) (by decide) hb ?_
  refine m_iconst C dX3_readChild_155 (by unfold in32; omega) ?_
  refine m_icmp_ne (tgt := 179) C dX3_readChild_156 (by decide) (fun c => ?_) (fun c => ?_)
  · have h := h.1 c
    exact h
  · have h := h.2 c
    refine m_iload C dX3_readChild_159 rfl ?_
    refine m_if_eq (tgt := 179) C dX3_readChild_161 (by decide) (fun c => ?_) (fun c => ?_)
    · have h := h.1 c
      exact h
    · have h := h.2 c
      refine m_iload C dX3_readChild_164 rfl ?_
      refine m_if_eq (tgt := 179) C dX3_readChild_166 (by decide) (fun c => ?_) (fun c => absurd c (by decide))
      exact h

set_option maxRecDepth 20000 in
theorem VX3_readChild_179 {G : m_G} {X : m_X} {d : Nat} {K : Int → m_M → Prop} (C : mC G X YX3_readChild (d + 1)) (R : r_i G X K) {μ : m_M} {a2 : Int} {a3 : Nat} {a4 : Nat} {a5 : Int} {l5 : Int} {l6 : Int} {l7 : Int} {l8 : Int} {l9 : Int} {l10 : Int} {l12 : Int} (hc_a3 : m_cls a3 = 9) (hc_a4 : m_cls a4 = 0)
    (h : mW G X YX3_readChild μ 182 [some (vR 1 1), some (vI a2), some (vR a3 0), some (vR a4 0), some (vI a5), some (vI l5), some (vI l6), some (vI l7), some (vI l8), some (vI l9), some (vI l10), some (vI 0), some (vI l12)] []) :
    mW G X YX3_readChild μ 179 [some (vR 1 1), some (vI a2), some (vR a3 0), some (vR a4 0), some (vI a5), some (vI l5), some (vI l6), some (vI l7), some (vI l8), some (vI l9), some (vI l10), none, some (vI l12)] [] := by
  refine m_iconst C dX3_readChild_179 (by unfold in32; omega) ?_
  refine o_istore [some (vR 1 1), some (vI a2), some (vR a3 0), some (vR a4 0), some (vI a5), some (vI l5), some (vI l6), some (vI l7), some (vI l8), some (vI l9), some (vI l10), some (vI 0), some (vI l12)] C dX3_readChild_180 (by decide) rfl ?_
  exact h

set_option maxRecDepth 20000 in
theorem VX3_readChild_182 {G : m_G} {X : m_X} {d : Nat} {K : Int → m_M → Prop} (C : mC G X YX3_readChild (d + 1)) (R : r_i G X K) {μ : m_M} {a2 : Int} {a3 : Nat} {a4 : Nat} {a5 : Int} {l5 : Int} {l6 : Int} {l7 : Int} {l8 : Int} {l9 : Int} {l10 : Int} {l11 : Int} {l12 : Int} (hc_a3 : m_cls a3 = 9) (hc_a4 : m_cls a4 = 0)
    (h : (0 ≤ a5 ∧ a5 < 8) ∧ ∀ μ1 : m_M, μ1 = m_up μ a4 3 a5.toNat l5 → (0 ≤ a5 ∧ a5 < 8) ∧ ∀ μ2 : m_M, μ2 = m_up μ1 a4 4 a5.toNat l6 → (0 ≤ a5 ∧ a5 < 8) ∧ ∀ μ3 : m_M, μ3 = m_up μ2 a4 5 a5.toNat l7 → (0 ≤ a5 ∧ a5 < 8) ∧ ∀ μ4 : m_M, μ4 = m_up μ3 a4 6 a5.toNat l8 → (0 ≤ a5 ∧ a5 < 8) ∧ ∀ μ5 : m_M, μ5 = m_up μ4 a4 7 a5.toNat l9 → (l11 = 0 ∨ l11 = 1) ∧ K l11 μ5) :
    mW G X YX3_readChild μ 182 [some (vR 1 1), some (vI a2), some (vR a3 0), some (vR a4 0), some (vI a5), some (vI l5), some (vI l6), some (vI l7), some (vI l8), some (vI l9), some (vI l10), some (vI l11), some (vI l12)] [] := by
  refine m_aload_n C dX3_readChild_182 rfl ?_
  refine f_getA C dX3_readChild_183 fl_KilnBench_Image_40 hc_a4 (by decide) (by decide) (by decide) (by decide) ?_
  refine m_iload C dX3_readChild_186 rfl ?_
  refine m_iload C dX3_readChild_188 rfl ?_
  obtain ⟨hb, h⟩ := h
  refine f_iast C dX3_readChild_190 (m_arO (a := 0) (len := 8) hc_a4 rfl) (by decide) hb ?_
  refine n_mem (fun μ1 eμ1 => ?_)
  have h := h μ1 eμ1
  refine m_aload_n C dX3_readChild_191 rfl ?_
  refine f_getA C dX3_readChild_192 fl_KilnBench_Image_43 hc_a4 (by decide) (by decide) (by decide) (by decide) ?_
  refine m_iload C dX3_readChild_195 rfl ?_
  refine m_iload C dX3_readChild_197 rfl ?_
  obtain ⟨hb, h⟩ := h
  refine f_iast C dX3_readChild_199 (m_arO (a := 0) (len := 8) hc_a4 rfl) (by decide) hb ?_
  refine n_mem (fun μ2 eμ2 => ?_)
  have h := h μ2 eμ2
  refine m_aload_n C dX3_readChild_200 rfl ?_
  refine f_getA C dX3_readChild_201 fl_KilnBench_Image_46 hc_a4 (by decide) (by decide) (by decide) (by decide) ?_
  refine m_iload C dX3_readChild_204 rfl ?_
  refine m_iload C dX3_readChild_206 rfl ?_
  obtain ⟨hb, h⟩ := h
  refine f_iast C dX3_readChild_208 (m_arO (a := 0) (len := 8) hc_a4 rfl) (by decide) hb ?_
  refine n_mem (fun μ3 eμ3 => ?_)
  have h := h μ3 eμ3
  refine m_aload_n C dX3_readChild_209 rfl ?_
  refine f_getA C dX3_readChild_210 fl_KilnBench_Image_49 hc_a4 (by decide) (by decide) (by decide) (by decide) ?_
  refine m_iload C dX3_readChild_213 rfl ?_
  refine m_iload C dX3_readChild_215 rfl ?_
  obtain ⟨hb, h⟩ := h
  refine f_iast C dX3_readChild_217 (m_arO (a := 0) (len := 8) hc_a4 rfl) (by decide) hb ?_
  refine n_mem (fun μ4 eμ4 => ?_)
  have h := h μ4 eμ4
  refine m_aload_n C dX3_readChild_218 rfl ?_
  refine f_getA C dX3_readChild_219 fl_KilnBench_Image_52 hc_a4 (by decide) (by decide) (by decide) (by decide) ?_
  refine m_iload C dX3_readChild_222 rfl ?_
  refine m_iload C dX3_readChild_224 rfl ?_
  obtain ⟨hb, h⟩ := h
  refine f_iast C dX3_readChild_226 (m_arO (a := 0) (len := 8) hc_a4 rfl) (by decide) hb ?_
  refine n_mem (fun μ5 eμ5 => ?_)
  have h := h μ5 eμ5
  refine m_iload C dX3_readChild_227 rfl ?_
  exact f_zret C R rfl dX3_readChild_229 h.1 h.2

set_option maxRecDepth 20000 in
theorem VX3_isFree_0 {G : m_G} {X : m_X} {d : Nat} {K : Int → m_M → Prop} (C : mC G X YX3_isFree (d + 1)) (R : r_i G X K) {μ : m_M} {a1 : Nat} {a2 : Nat} {a3 : Int} {a4 : Int} (hc_a1 : m_cls a1 = 9) (hc_a2 : m_cls a2 = 0)
    (h : ((a3 < 0) → K 0 μ) ∧ ((¬ a3 < 0) → ((μ a1 0 6 ≤ a3) → K 0 μ) ∧ ((¬ μ a1 0 6 ≤ a3) → ((a4 < 0) → K 0 μ) ∧ ((¬ a4 < 0) → (0 ≤ a3 ∧ a3 < 3) ∧ ((μ a1 6 a3.toNat ≤ a4) → K 0 μ) ∧ ((¬ μ a1 6 a3.toNat ≤ a4) → c_i G d YX0_whoIsIn [vR a2 0, vI a3, vI a4] μ (fun r7 μ6 => ((¬ r7 = (-1)) → K 0 μ6) ∧ ((r7 = (-1)) → K 1 μ6))))))) :
    mW G X YX3_isFree μ 0 [some (vR a1 0), some (vR a2 0), some (vI a3), some (vI a4), none] [] := by
  refine m_iload_n C dX3_isFree_0 rfl ?_
  refine m_if_lt (tgt := 30) C dX3_isFree_1 (by decide) (fun c => ?_) (fun c => ?_)
  · have h := h.1 c
    refine m_iconst C dX3_isFree_30 (by unfold in32; omega) ?_
    refine o_istore [some (vR a1 0), some (vR a2 0), some (vI a3), some (vI a4), some (vI 0)] C dX3_isFree_31 (by decide) rfl ?_
    refine m_iload C dX3_isFree_33 rfl ?_
    refine m_if_eq (tgt := 52) C dX3_isFree_35 (by decide) (fun c => ?_) (fun c => absurd c (by decide))
    refine m_iconst C dX3_isFree_52 (by unfold in32; omega) ?_
    exact f_zret C R rfl dX3_isFree_53 (by decide) h
  · have h := h.2 c
    refine m_iload_n C dX3_isFree_4 rfl ?_
    refine m_aload_n C dX3_isFree_5 rfl ?_
    refine f_getI C dX3_isFree_6 fl_KilnBench_Image_55 hc_a1 (by decide) (by decide) ?_
    refine m_icmp_ge (tgt := 30) C dX3_isFree_9 (by decide) (fun c => ?_) (fun c => ?_)
    · have h := h.1 c
      refine m_iconst C dX3_isFree_30 (by unfold in32; omega) ?_
      refine o_istore [some (vR a1 0), some (vR a2 0), some (vI a3), some (vI a4), some (vI 0)] C dX3_isFree_31 (by decide) rfl ?_
      refine m_iload C dX3_isFree_33 rfl ?_
      refine m_if_eq (tgt := 52) C dX3_isFree_35 (by decide) (fun c => ?_) (fun c => absurd c (by decide))
      refine m_iconst C dX3_isFree_52 (by unfold in32; omega) ?_
      exact f_zret C R rfl dX3_isFree_53 (by decide) h
    · have h := h.2 c
      refine m_iload_n C dX3_isFree_12 rfl ?_
      refine m_if_lt (tgt := 30) C dX3_isFree_13 (by decide) (fun c => ?_) (fun c => ?_)
      · have h := h.1 c
        refine m_iconst C dX3_isFree_30 (by unfold in32; omega) ?_
        refine o_istore [some (vR a1 0), some (vR a2 0), some (vI a3), some (vI a4), some (vI 0)] C dX3_isFree_31 (by decide) rfl ?_
        refine m_iload C dX3_isFree_33 rfl ?_
        refine m_if_eq (tgt := 52) C dX3_isFree_35 (by decide) (fun c => ?_) (fun c => absurd c (by decide))
        refine m_iconst C dX3_isFree_52 (by unfold in32; omega) ?_
        exact f_zret C R rfl dX3_isFree_53 (by decide) h
      · have h := h.2 c
        refine m_iload_n C dX3_isFree_16 rfl ?_
        refine m_aload_n C dX3_isFree_17 rfl ?_
        refine f_getA C dX3_isFree_18 fl_KilnBench_Image_89 hc_a1 (by decide) (by decide) (by decide) (by decide) ?_
        refine m_iload_n C dX3_isFree_21 rfl ?_
        obtain ⟨hb, h⟩ := h
        refine f_iald C dX3_isFree_22 (m_arO (a := 0) (len := 3) hc_a1 rfl) (by decide) hb ?_
        refine m_icmp_ge (tgt := 30) C dX3_isFree_23 (by decide) (fun c => ?_) (fun c => ?_)
        · have h := h.1 c
          refine m_iconst C dX3_isFree_30 (by unfold in32; omega) ?_
          refine o_istore [some (vR a1 0), some (vR a2 0), some (vI a3), some (vI a4), some (vI 0)] C dX3_isFree_31 (by decide) rfl ?_
          refine m_iload C dX3_isFree_33 rfl ?_
          refine m_if_eq (tgt := 52) C dX3_isFree_35 (by decide) (fun c => ?_) (fun c => absurd c (by decide))
          refine m_iconst C dX3_isFree_52 (by unfold in32; omega) ?_
          exact f_zret C R rfl dX3_isFree_53 (by decide) h
        · have h := h.2 c
          refine m_iconst C dX3_isFree_26 (by unfold in32; omega) ?_
          refine m_goto (tgt := 31) C dX3_isFree_27 (by decide) ?_
          refine o_istore [some (vR a1 0), some (vR a2 0), some (vI a3), some (vI a4), some (vI 1)] C dX3_isFree_31 (by decide) rfl ?_
          refine m_iload C dX3_isFree_33 rfl ?_
          refine m_if_eq (tgt := 52) C dX3_isFree_35 (by decide) (fun c => absurd c (by decide)) (fun c => ?_)
          refine m_aload_n C dX3_isFree_38 rfl ?_
          refine m_iload_n C dX3_isFree_39 rfl ?_
          refine m_iload_n C dX3_isFree_40 rfl ?_
          refine f_callVi (As := [vI a3, vI a4]) (st := []) C dX3_isFree_41 ml_KilnBench_Image_92 hc_a2 (by decide) rfl rfl rfl (Nat.le_of_ble_eq_true rfl) h (fun r7 μ6 h => ?_)
          refine m_iconst C dX3_isFree_44 (by unfold in32; omega) ?_
          refine m_icmp_ne (tgt := 52) C dX3_isFree_45 (by decide) (fun c => ?_) (fun c => ?_)
          · have h := h.1 c
            refine m_iconst C dX3_isFree_52 (by unfold in32; omega) ?_
            exact f_zret C R rfl dX3_isFree_53 (by decide) h
          · have h := h.2 c
            refine m_iconst C dX3_isFree_48 (by unfold in32; omega) ?_
            refine m_goto (tgt := 53) C dX3_isFree_49 (by decide) ?_
            exact f_zret C R rfl dX3_isFree_53 (by decide) h

set_option maxRecDepth 20000 in
theorem VX3_isStuckBothWays_0 {G : m_G} {X : m_X} {d : Nat} {K : Int → m_M → Prop} (C : mC G X YX3_isStuckBothWays (d + 1)) (R : r_i G X K) {μ : m_M} {a1 : Nat} (hc_a1 : m_cls a1 = 0)
    (h : mW G X YX3_isStuckBothWays μ 2 [some (vR a1 0), some (vI 0), none] []) :
    mW G X YX3_isStuckBothWays μ 0 [some (vR a1 0), none, none] [] := by
  refine m_iconst C dX3_isStuckBothWays_0 (by unfold in32; omega) ?_
  refine o_istore_n [some (vR a1 0), some (vI 0), none] C dX3_isStuckBothWays_1 (by decide) rfl ?_
  exact h

set_option maxRecDepth 20000 in
theorem VX3_isStuckBothWays_2 {G : m_G} {X : m_X} {d : Nat} {K : Int → m_M → Prop} (C : mC G X YX3_isStuckBothWays (d + 1)) (R : r_i G X K) {μ : m_M} {a1 : Nat} {l1 : Int} (hc_a1 : m_cls a1 = 0)
    (h : ((8 ≤ l1) → K 1 μ) ∧ ((¬ 8 ≤ l1) → (0 ≤ l1 ∧ l1 < 8) ∧ ((¬ (i_and (i_shr (μ a1 7 l1.toNat) l1) 1) = 1) → mW G X YX3_isStuckBothWays μ 26 [some (vR a1 0), some (vI l1), some (vI 0)] []) ∧ ((i_and (i_shr (μ a1 7 l1.toNat) l1) 1 = 1) → K 0 μ))) :
    mW G X YX3_isStuckBothWays μ 2 [some (vR a1 0), some (vI l1), none] [] := by
  refine m_iload_n C dX3_isStuckBothWays_2 rfl ?_
  refine m_bipush C dX3_isStuckBothWays_3 (by omega) ?_
  refine m_icmp_ge (tgt := 69) C dX3_isStuckBothWays_5 (by decide) (fun c => ?_) (fun c => ?_)
  · have h := h.1 c
    refine m_iconst C dX3_isStuckBothWays_69 (by unfold in32; omega) ?_
    exact f_zret C R rfl dX3_isStuckBothWays_70 (by decide) h
  · have h := h.2 c
    refine m_aload_n C dX3_isStuckBothWays_8 rfl ?_
    refine f_getA C dX3_isStuckBothWays_9 fl_KilnBench_Image_52 hc_a1 (by decide) (by decide) (by decide) (by decide) ?_
    refine m_iload_n C dX3_isStuckBothWays_12 rfl ?_
    obtain ⟨hb, h⟩ := h
    refine f_iald C dX3_isStuckBothWays_13 (m_arO (a := 0) (len := 8) hc_a1 rfl) (by decide) hb ?_
    refine m_iload_n C dX3_isStuckBothWays_14 rfl ?_
    refine m_ishr C dX3_isStuckBothWays_15 ?_
    refine m_iconst C dX3_isStuckBothWays_16 (by unfold in32; omega) ?_
    refine m_iand C dX3_isStuckBothWays_17 ?_
    refine m_iconst C dX3_isStuckBothWays_18 (by unfold in32; omega) ?_
    refine m_icmp_ne (tgt := 24) C dX3_isStuckBothWays_19 (by decide) (fun c => ?_) (fun c => ?_)
    · have h := h.1 c
      refine m_iconst C dX3_isStuckBothWays_24 (by unfold in32; omega) ?_
      refine o_istore_n [some (vR a1 0), some (vI l1), some (vI 0)] C dX3_isStuckBothWays_25 (by decide) rfl ?_
      exact h
    · have h := h.2 c
      refine m_iconst C dX3_isStuckBothWays_22 (by unfold in32; omega) ?_
      exact f_zret C R rfl dX3_isStuckBothWays_23 (by decide) h

set_option maxRecDepth 20000 in
theorem VX3_isStuckBothWays_26 {G : m_G} {X : m_X} {d : Nat} {K : Int → m_M → Prop} (C : mC G X YX3_isStuckBothWays (d + 1)) (R : r_i G X K) {μ : m_M} {a1 : Nat} {l1 : Int} {l2 : Int} (hc_a1 : m_cls a1 = 0)
    (h : ((8 ≤ l2) → ∀ x1 : Int, x1 = w32 (l1 + 1) → mW G X YX3_isStuckBothWays μ 2 [some (vR a1 0), some (vI x1), none] []) ∧ ((¬ 8 ≤ l2) → (0 ≤ l1 ∧ l1 < 8) ∧ (0 ≤ l2 ∧ l2 < 8) ∧ ((i_and (i_shr (μ a1 7 l1.toNat) l2) 1 = i_and (i_shr (μ a1 7 l2.toNat) l1) 1) → ∀ x2 : Int, x2 = w32 (l2 + 1) → mW G X YX3_isStuckBothWays μ 26 [some (vR a1 0), some (vI l1), some (vI x2)] []) ∧ ((¬ i_and (i_shr (μ a1 7 l1.toNat) l2) 1 = i_and (i_shr (μ a1 7 l2.toNat) l1) 1) → K 0 μ))) :
    mW G X YX3_isStuckBothWays μ 26 [some (vR a1 0), some (vI l1), some (vI l2)] [] := by
  refine m_iload_n C dX3_isStuckBothWays_26 rfl ?_
  refine m_bipush C dX3_isStuckBothWays_27 (by omega) ?_
  refine m_icmp_ge (tgt := 63) C dX3_isStuckBothWays_29 (by decide) (fun c => ?_) (fun c => ?_)
  · have h := h.1 c
    refine n_iinc (fun x1 => [some (vR a1 0), some (vI x1), some (vI l2)]) C dX3_isStuckBothWays_63 rfl (by decide) (fun _ => rfl) (fun x1 ex1 => ?_)
    have h := h x1 ex1
    refine m_goto (tgt := 2) C dX3_isStuckBothWays_66 (by decide) ?_
    exact n_weak (le_same (le_same (le_none le_nil))) h
  · have h := h.2 c
    refine m_aload_n C dX3_isStuckBothWays_32 rfl ?_
    refine f_getA C dX3_isStuckBothWays_33 fl_KilnBench_Image_52 hc_a1 (by decide) (by decide) (by decide) (by decide) ?_
    refine m_iload_n C dX3_isStuckBothWays_36 rfl ?_
    obtain ⟨hb, h⟩ := h
    refine f_iald C dX3_isStuckBothWays_37 (m_arO (a := 0) (len := 8) hc_a1 rfl) (by decide) hb ?_
    refine m_iload_n C dX3_isStuckBothWays_38 rfl ?_
    refine m_ishr C dX3_isStuckBothWays_39 ?_
    refine m_iconst C dX3_isStuckBothWays_40 (by unfold in32; omega) ?_
    refine m_iand C dX3_isStuckBothWays_41 ?_
    refine m_aload_n C dX3_isStuckBothWays_42 rfl ?_
    refine f_getA C dX3_isStuckBothWays_43 fl_KilnBench_Image_52 hc_a1 (by decide) (by decide) (by decide) (by decide) ?_
    refine m_iload_n C dX3_isStuckBothWays_46 rfl ?_
    obtain ⟨hb, h⟩ := h
    refine f_iald C dX3_isStuckBothWays_47 (m_arO (a := 0) (len := 8) hc_a1 rfl) (by decide) hb ?_
    refine m_iload_n C dX3_isStuckBothWays_48 rfl ?_
    refine m_ishr C dX3_isStuckBothWays_49 ?_
    refine m_iconst C dX3_isStuckBothWays_50 (by unfold in32; omega) ?_
    refine m_iand C dX3_isStuckBothWays_51 ?_
    refine m_icmp_eq (tgt := 57) C dX3_isStuckBothWays_52 (by decide) (fun c => ?_) (fun c => ?_)
    · have h := h.1 c
      refine n_iinc (fun x2 => [some (vR a1 0), some (vI l1), some (vI x2)]) C dX3_isStuckBothWays_57 rfl (by decide) (fun _ => rfl) (fun x2 ex2 => ?_)
      have h := h x2 ex2
      refine m_goto (tgt := 26) C dX3_isStuckBothWays_60 (by decide) ?_
      exact h
    · have h := h.2 c
      refine m_iconst C dX3_isStuckBothWays_55 (by unfold in32; omega) ?_
      exact f_zret C R rfl dX3_isStuckBothWays_56 (by decide) h

set_option maxRecDepth 20000 in
theorem VX8_read_0 {G : m_G} {X : m_X} {d : Nat} {K : Int → m_M → Prop} (C : mC G X YX8_read (d + 1)) (R : r_i G X K) {μ : m_M} {a2 : Int} {a3 : Int}
    (h : ((a2 < 3) → K 0 μ) ∧ ((¬ a2 < 3) → ((48 < a2) → K 0 μ) ∧ ((¬ 48 < a2) → ((a2.tmod 3 = 0) → mW G X YX8_read μ 25 [some (vR 8 0), some (vR 1 1), some (vI a2), some (vI a3), some (vI 0), none] []) ∧ ((¬ a2.tmod 3 = 0) → K 0 μ)))) :
    mW G X YX8_read μ 0 [some (vR 8 0), some (vR 1 1), some (vI a2), some (vI a3), none, none] [] := by
  refine m_iload_n C dX8_read_0 rfl ?_
  refine m_iconst C dX8_read_1 (by unfold in32; omega) ?_
  refine m_icmp_lt (tgt := 20) C dX8_read_2 (by decide) (fun c => ?_) (fun c => ?_)
  · have h := h.1 c
    refine m_iconst C dX8_read_20 (by unfold in32; omega) ?_
    exact f_zret C R rfl dX8_read_21 (by decide) h
  · have h := h.2 c
    refine m_iload_n C dX8_read_5 rfl ?_
    refine m_aload_n C dX8_read_6 rfl ?_
    refine f_getA C dX8_read_7 fl_KilnBench_Sight_24 rfl (by decide) (by decide) (by decide) (by decide) ?_
    refine f_alen C dX8_read_10 (m_arO (a := 0) (len := 48) rfl rfl) (by decide) (by decide) (by decide) ?_
    refine m_icmp_gt (tgt := 20) C dX8_read_11 (by decide) (fun c => ?_) (fun c => ?_)
    · have h := h.1 c
      refine m_iconst C dX8_read_20 (by unfold in32; omega) ?_
      exact f_zret C R rfl dX8_read_21 (by decide) h
    · have h := h.2 c
      refine m_iload_n C dX8_read_14 rfl ?_
      refine m_iconst C dX8_read_15 (by unfold in32; omega) ?_
      refine m_irem C dX8_read_16 (by decide) ?_
      refine m_if_eq (tgt := 22) C dX8_read_17 (by decide) (fun c => ?_) (fun c => ?_)
      · have h := h.1 c
        refine m_iconst C dX8_read_22 (by unfold in32; omega) ?_
        refine o_istore [some (vR 8 0), some (vR 1 1), some (vI a2), some (vI a3), some (vI 0), none] C dX8_read_23 (by decide) rfl ?_
        exact h
      · have h := h.2 c
        refine m_iconst C dX8_read_20 (by unfold in32; omega) ?_
        exact f_zret C R rfl dX8_read_21 (by decide) h

set_option maxRecDepth 20000 in
theorem VX8_read_25 {G : m_G} {X : m_X} {d : Nat} {K : Int → m_M → Prop} (C : mC G X YX8_read (d + 1)) (R : r_i G X K) {μ : m_M} {a2 : Int} {a3 : Int} {l4 : Int}
    (h : ((a2 ≤ l4) → mW G X YX8_read μ 96 [some (vR 8 0), some (vR 1 1), some (vI a2), some (vI a3), some (vI 0), none] []) ∧ ((¬ a2 ≤ l4) → (0 ≤ l4 ∧ l4 < 1600) ∧ ((a3 ≤ i_and (μ 1 1 l4.toNat) 255) → K 0 μ) ∧ ((¬ a3 ≤ i_and (μ 1 1 l4.toNat) 255) → (0 ≤ w32 (l4 + 1) ∧ w32 (l4 + 1) < 1600) ∧ ((6 ≤ i_and (μ 1 1 (w32 (l4 + 1)).toNat) 255) → K 0 μ) ∧ ((¬ 6 ≤ i_and (μ 1 1 (w32 (l4 + 1)).toNat) 255) → (0 ≤ w32 (l4 + 2) ∧ w32 (l4 + 2) < 1600) ∧ ((99 < i_and (μ 1 1 (w32 (l4 + 2)).toNat) 255) → K 0 μ) ∧ ((¬ 99 < i_and (μ 1 1 (w32 (l4 + 2)).toNat) 255) → ∀ x6 : Int, x6 = w32 (l4 + 3) → mW G X YX8_read μ 25 [some (vR 8 0), some (vR 1 1), some (vI a2), some (vI a3), some (vI x6), none] []))))) :
    mW G X YX8_read μ 25 [some (vR 8 0), some (vR 1 1), some (vI a2), some (vI a3), some (vI l4), none] [] := by
  refine m_iload C dX8_read_25 rfl ?_
  refine m_iload_n C dX8_read_27 rfl ?_
  refine m_icmp_ge (tgt := 93) C dX8_read_28 (by decide) (fun c => ?_) (fun c => ?_)
  · have h := h.1 c
    refine m_iconst C dX8_read_93 (by unfold in32; omega) ?_
    refine o_istore [some (vR 8 0), some (vR 1 1), some (vI a2), some (vI a3), some (vI 0), none] C dX8_read_94 (by decide) rfl ?_
    exact h
  · have h := h.2 c
    refine m_aload_n C dX8_read_31 rfl ?_
    refine m_iload C dX8_read_32 rfl ?_
    obtain ⟨hb, h⟩ := h
    refine f_bald C dX8_read_34 (m_arO (a := 1) (len := 1600) rfl rfl) (by decide) hb ?_
    refine m_sipush C dX8_read_35 (by omega) ?_
    refine m_iand C dX8_read_38 ?_
    refine m_iload_n C dX8_read_39 rfl ?_
    refine m_icmp_ge (tgt := 77) C dX8_read_40 (by decide) (fun c => ?_) (fun c => ?_)
    · have h := h.1 c
      refine m_iconst C dX8_read_77 (by unfold in32; omega) ?_
      refine o_istore [some (vR 8 0), some (vR 1 1), some (vI a2), some (vI a3), some (vI l4), some (vI 0)] C dX8_read_78 (by decide) rfl ?_
      refine m_iload C dX8_read_80 rfl ?_
      refine m_if_ne (tgt := 87) C dX8_read_82 (by decide) (fun c => absurd c (by decide)) (fun c => ?_)
      refine m_iconst C dX8_read_85 (by unfold in32; omega) ?_
      exact f_zret C R rfl dX8_read_86 (by decide) h
    · have h := h.2 c
      refine m_aload_n C dX8_read_43 rfl ?_
      refine m_iload C dX8_read_44 rfl ?_
      refine m_iconst C dX8_read_46 (by unfold in32; omega) ?_
      refine m_iadd C dX8_read_47 ?_
      obtain ⟨hb, h⟩ := h
      refine f_bald C dX8_read_48 (m_arO (a := 1) (len := 1600) rfl rfl) (by decide) hb ?_
      refine m_sipush C dX8_read_49 (by omega) ?_
      refine m_iand C dX8_read_52 ?_
      refine m_bipush C dX8_read_53 (by omega) ?_
      refine m_icmp_ge (tgt := 77) C dX8_read_55 (by decide) (fun c => ?_) (fun c => ?_)
      · have h := h.1 c
        refine m_iconst C dX8_read_77 (by unfold in32; omega) ?_
        refine o_istore [some (vR 8 0), some (vR 1 1), some (vI a2), some (vI a3), some (vI l4), some (vI 0)] C dX8_read_78 (by decide) rfl ?_
        refine m_iload C dX8_read_80 rfl ?_
        refine m_if_ne (tgt := 87) C dX8_read_82 (by decide) (fun c => absurd c (by decide)) (fun c => ?_)
        refine m_iconst C dX8_read_85 (by unfold in32; omega) ?_
        exact f_zret C R rfl dX8_read_86 (by decide) h
      · have h := h.2 c
        refine m_aload_n C dX8_read_58 rfl ?_
        refine m_iload C dX8_read_59 rfl ?_
        refine m_iconst C dX8_read_61 (by unfold in32; omega) ?_
        refine m_iadd C dX8_read_62 ?_
        obtain ⟨hb, h⟩ := h
        refine f_bald C dX8_read_63 (m_arO (a := 1) (len := 1600) rfl rfl) (by decide) hb ?_
        refine m_sipush C dX8_read_64 (by omega) ?_
        refine m_iand C dX8_read_67 ?_
        refine m_bipush C dX8_read_68 (by omega) ?_
        refine m_icmp_gt (tgt := 77) C dX8_read_70 (by decide) (fun c => ?_) (fun c => ?_)
        · have h := h.1 c
          refine m_iconst C dX8_read_77 (by unfold in32; omega) ?_
          refine o_istore [some (vR 8 0), some (vR 1 1), some (vI a2), some (vI a3), some (vI l4), some (vI 0)] C dX8_read_78 (by decide) rfl ?_
          refine m_iload C dX8_read_80 rfl ?_
          refine m_if_ne (tgt := 87) C dX8_read_82 (by decide) (fun c => absurd c (by decide)) (fun c => ?_)
          refine m_iconst C dX8_read_85 (by unfold in32; omega) ?_
          exact f_zret C R rfl dX8_read_86 (by decide) h
        · have h := h.2 c
          refine m_iconst C dX8_read_73 (by unfold in32; omega) ?_
          refine m_goto (tgt := 78) C dX8_read_74 (by decide) ?_
          refine o_istore [some (vR 8 0), some (vR 1 1), some (vI a2), some (vI a3), some (vI l4), some (vI 1)] C dX8_read_78 (by decide) rfl ?_
          refine m_iload C dX8_read_80 rfl ?_
          refine m_if_ne (tgt := 87) C dX8_read_82 (by decide) (fun c => ?_) (fun c => absurd c (by decide))
          refine n_iinc (fun x6 => [some (vR 8 0), some (vR 1 1), some (vI a2), some (vI a3), some (vI x6), some (vI 1)]) C dX8_read_87 rfl (by decide) (fun _ => rfl) (fun x6 ex6 => ?_)
          have h := h x6 ex6
          refine m_goto (tgt := 25) C dX8_read_90 (by decide) ?_
          exact n_weak (le_same (le_same (le_same (le_same (le_same (le_none le_nil)))))) h

set_option maxRecDepth 20000 in
theorem VX8_read_96 {G : m_G} {X : m_X} {d : Nat} {K : Int → m_M → Prop} (C : mC G X YX8_read (d + 1)) (R : r_i G X K) {μ : m_M} {a2 : Int} {a3 : Int} {l4 : Int}
    (h : ((a2 ≤ l4) → ∀ μ1 : m_M, μ1 = m_up μ 8 0 0 (w32 (a2.tdiv 3)) → K 1 μ1) ∧ ((¬ a2 ≤ l4) → (0 ≤ l4 ∧ l4 < 1600) ∧ (0 ≤ l4 ∧ l4 < 48) ∧ ∀ μ2 : m_M, μ2 = m_up μ 8 5 l4.toNat (i_and (μ 1 1 l4.toNat) 255) → ∀ x3 : Int, x3 = w32 (l4 + 1) → mW G X YX8_read μ2 96 [some (vR 8 0), some (vR 1 1), some (vI a2), some (vI a3), some (vI x3), none] [])) :
    mW G X YX8_read μ 96 [some (vR 8 0), some (vR 1 1), some (vI a2), some (vI a3), some (vI l4), none] [] := by
  refine m_iload C dX8_read_96 rfl ?_
  refine m_iload_n C dX8_read_98 rfl ?_
  refine m_icmp_ge (tgt := 123) C dX8_read_99 (by decide) (fun c => ?_) (fun c => ?_)
  · have h := h.1 c
    refine m_aload_n C dX8_read_123 rfl ?_
    refine m_iload_n C dX8_read_124 rfl ?_
    refine m_iconst C dX8_read_125 (by unfold in32; omega) ?_
    refine m_idiv C dX8_read_126 (by decide) ?_
    refine f_putI C dX8_read_127 fl_KilnBench_Sight_9 rfl (by decide) (by decide) (by decide) ?_
    refine n_mem (fun μ1 eμ1 => ?_)
    have h := h μ1 eμ1
    refine m_iconst C dX8_read_130 (by unfold in32; omega) ?_
    exact f_zret C R rfl dX8_read_131 (by decide) h
  · have h := h.2 c
    refine m_aload_n C dX8_read_102 rfl ?_
    refine f_getA C dX8_read_103 fl_KilnBench_Sight_24 rfl (by decide) (by decide) (by decide) (by decide) ?_
    refine m_iload C dX8_read_106 rfl ?_
    refine m_aload_n C dX8_read_108 rfl ?_
    refine m_iload C dX8_read_109 rfl ?_
    obtain ⟨hb, h⟩ := h
    refine f_bald C dX8_read_111 (m_arO (a := 1) (len := 1600) rfl rfl) (by decide) hb ?_
    refine m_sipush C dX8_read_112 (by omega) ?_
    refine m_iand C dX8_read_115 ?_
    obtain ⟨hb, h⟩ := h
    refine f_iast C dX8_read_116 (m_arO (a := 0) (len := 48) rfl rfl) (by decide) hb ?_
    refine n_mem (fun μ2 eμ2 => ?_)
    have h := h μ2 eμ2
    refine n_iinc (fun x3 => [some (vR 8 0), some (vR 1 1), some (vI a2), some (vI a3), some (vI x3), none]) C dX8_read_117 rfl (by decide) (fun _ => rfl) (fun x3 ex3 => ?_)
    have h := h x3 ex3
    refine m_goto (tgt := 96) C dX8_read_120 (by decide) ?_
    exact h

set_option maxRecDepth 20000 in
theorem VX8_heatsLeft_0 {G : m_G} {X : m_X} {d : Nat} {K : Int → m_M → Prop} (C : mC G X YX8_heatsLeft (d + 1)) (R : r_i G X K) {μ : m_M} {a2 : Int}
    (h : mW G X YX8_heatsLeft μ 5 [some (vR 8 0), some (vR 4 0), some (vI a2), some (vI 0), some (vI 0)] []) :
    mW G X YX8_heatsLeft μ 0 [some (vR 8 0), some (vR 4 0), some (vI a2), none, none] [] := by
  refine m_iconst C dX8_heatsLeft_0 (by unfold in32; omega) ?_
  refine o_istore_n [some (vR 8 0), some (vR 4 0), some (vI a2), some (vI 0), none] C dX8_heatsLeft_1 (by decide) rfl ?_
  refine m_iconst C dX8_heatsLeft_2 (by unfold in32; omega) ?_
  refine o_istore [some (vR 8 0), some (vR 4 0), some (vI a2), some (vI 0), some (vI 0)] C dX8_heatsLeft_3 (by decide) rfl ?_
  exact h

set_option maxRecDepth 20000 in
theorem VX8_heatsLeft_5 {G : m_G} {X : m_X} {d : Nat} {K : Int → m_M → Prop} (C : mC G X YX8_heatsLeft (d + 1)) (R : r_i G X K) {μ : m_M} {a2 : Int} {l3 : Int} {l4 : Int}
    (h : ((20 < l4) → K l3 μ) ∧ ((¬ 20 < l4) → c_i G d YX8_allRingSo [vR 8 0, vR 4 0, vI a2, vI l4] μ (fun r2 μ1 => ((r2 = 0) → ∀ x3 : Int, x3 = w32 (l4 + 1) → mW G X YX8_heatsLeft μ1 5 [some (vR 8 0), some (vR 4 0), some (vI a2), some (vI l3), some (vI x3)] []) ∧ ((¬ r2 = 0) → ∀ x4 : Int, x4 = i_or l3 (i_shl 1 l4) → ∀ x5 : Int, x5 = w32 (l4 + 1) → mW G X YX8_heatsLeft μ1 5 [some (vR 8 0), some (vR 4 0), some (vI a2), some (vI x4), some (vI x5)] [])))) :
    mW G X YX8_heatsLeft μ 5 [some (vR 8 0), some (vR 4 0), some (vI a2), some (vI l3), some (vI l4)] [] := by
  refine m_iload C dX8_heatsLeft_5 rfl ?_
  refine m_bipush C dX8_heatsLeft_7 (by omega) ?_
  refine m_icmp_gt (tgt := 36) C dX8_heatsLeft_9 (by decide) (fun c => ?_) (fun c => ?_)
  · have h := h.1 c
    refine m_iload_n C dX8_heatsLeft_36 rfl ?_
    exact f_iret C R rfl dX8_heatsLeft_37 h
  · have h := h.2 c
    refine m_aload_n C dX8_heatsLeft_12 rfl ?_
    refine m_aload_n C dX8_heatsLeft_13 rfl ?_
    refine m_iload_n C dX8_heatsLeft_14 rfl ?_
    refine m_iload C dX8_heatsLeft_15 rfl ?_
    refine f_callVi (As := [vR 4 0, vI a2, vI l4]) (st := []) C dX8_heatsLeft_17 ml_KilnBench_Sight_31 rfl (by decide) rfl rfl rfl (Nat.le_of_ble_eq_true rfl) h (fun r2 μ1 h => ?_)
    refine m_if_eq (tgt := 30) C dX8_heatsLeft_20 (by decide) (fun c => ?_) (fun c => ?_)
    · have h := h.1 c
      refine n_iinc (fun x3 => [some (vR 8 0), some (vR 4 0), some (vI a2), some (vI l3), some (vI x3)]) C dX8_heatsLeft_30 rfl (by decide) (fun _ => rfl) (fun x3 ex3 => ?_)
      have h := h x3 ex3
      refine m_goto (tgt := 5) C dX8_heatsLeft_33 (by decide) ?_
      exact h
    · have h := h.2 c
      refine m_iload_n C dX8_heatsLeft_23 rfl ?_
      refine m_iconst C dX8_heatsLeft_24 (by unfold in32; omega) ?_
      refine m_iload C dX8_heatsLeft_25 rfl ?_
      refine m_ishl C dX8_heatsLeft_27 ?_
      refine m_ior C dX8_heatsLeft_28 ?_
      refine n_istore_n (fun x4 => [some (vR 8 0), some (vR 4 0), some (vI a2), some (vI x4), some (vI l4)]) C dX8_heatsLeft_29 (by decide) (fun _ => rfl) (fun x4 ex4 => ?_)
      have h := h x4 ex4
      refine n_iinc (fun x5 => [some (vR 8 0), some (vR 4 0), some (vI a2), some (vI x4), some (vI x5)]) C dX8_heatsLeft_30 rfl (by decide) (fun _ => rfl) (fun x5 ex5 => ?_)
      have h := h x5 ex5
      refine m_goto (tgt := 5) C dX8_heatsLeft_33 (by decide) ?_
      exact h

set_option maxRecDepth 20000 in
theorem VX8_allRingSo_0 {G : m_G} {X : m_X} {d : Nat} {K : Int → m_M → Prop} (C : mC G X YX8_allRingSo (d + 1)) (R : r_i G X K) {μ : m_M} {a2 : Int} {a3 : Int}
    (h : mW G X YX8_allRingSo μ 3 [some (vR 8 0), some (vR 4 0), some (vI a2), some (vI a3), some (vI 0)] []) :
    mW G X YX8_allRingSo μ 0 [some (vR 8 0), some (vR 4 0), some (vI a2), some (vI a3), none] [] := by
  refine m_iconst C dX8_allRingSo_0 (by unfold in32; omega) ?_
  refine o_istore [some (vR 8 0), some (vR 4 0), some (vI a2), some (vI a3), some (vI 0)] C dX8_allRingSo_1 (by decide) rfl ?_
  exact h

set_option maxRecDepth 20000 in
theorem VX8_allRingSo_3 {G : m_G} {X : m_X} {d : Nat} {K : Int → m_M → Prop} (C : mC G X YX8_allRingSo (d + 1)) (R : r_i G X K) {μ : m_M} {a2 : Int} {a3 : Int} {l4 : Int}
    (h : ((w32 ((μ 8 0 0) * 3) ≤ l4) → K 1 μ) ∧ ((¬ w32 ((μ 8 0 0) * 3) ≤ l4) → (0 ≤ l4 ∧ l4 < 48) ∧ (0 ≤ w32 (l4 + 1) ∧ w32 (l4 + 1) < 48) ∧ c_i G d YX4_temperOf [vR 4 0, vI (μ 8 5 l4.toNat), vI a3, vI (μ 8 5 (w32 (l4 + 1)).toNat), vI a2] μ (fun r2 μ1 => (0 ≤ w32 (l4 + 2) ∧ w32 (l4 + 2) < 48) ∧ ((r2 = μ1 8 5 (w32 (l4 + 2)).toNat) → ∀ x3 : Int, x3 = w32 (l4 + 3) → mW G X YX8_allRingSo μ1 3 [some (vR 8 0), some (vR 4 0), some (vI a2), some (vI a3), some (vI x3)] []) ∧ ((¬ r2 = μ1 8 5 (w32 (l4 + 2)).toNat) → K 0 μ1)))) :
    mW G X YX8_allRingSo μ 3 [some (vR 8 0), some (vR 4 0), some (vI a2), some (vI a3), some (vI l4)] [] := by
  refine m_iload C dX8_allRingSo_3 rfl ?_
  refine m_aload_n C dX8_allRingSo_5 rfl ?_
  refine f_getI C dX8_allRingSo_6 fl_KilnBench_Sight_9 rfl (by decide) (by decide) ?_
  refine m_iconst C dX8_allRingSo_9 (by unfold in32; omega) ?_
  refine m_imul C dX8_allRingSo_10 ?_
  refine m_icmp_ge (tgt := 56) C dX8_allRingSo_11 (by decide) (fun c => ?_) (fun c => ?_)
  · have h := h.1 c
    refine m_iconst C dX8_allRingSo_56 (by unfold in32; omega) ?_
    exact f_zret C R rfl dX8_allRingSo_57 (by decide) h
  · have h := h.2 c
    refine m_aload_n C dX8_allRingSo_14 rfl ?_
    refine m_aload_n C dX8_allRingSo_15 rfl ?_
    refine f_getA C dX8_allRingSo_16 fl_KilnBench_Sight_24 rfl (by decide) (by decide) (by decide) (by decide) ?_
    refine m_iload C dX8_allRingSo_19 rfl ?_
    obtain ⟨hb, h⟩ := h
    refine f_iald C dX8_allRingSo_21 (m_arO (a := 0) (len := 48) rfl rfl) (by decide) hb ?_
    refine m_iload_n C dX8_allRingSo_22 rfl ?_
    refine m_aload_n C dX8_allRingSo_23 rfl ?_
    refine f_getA C dX8_allRingSo_24 fl_KilnBench_Sight_24 rfl (by decide) (by decide) (by decide) (by decide) ?_
    refine m_iload C dX8_allRingSo_27 rfl ?_
    refine m_iconst C dX8_allRingSo_29 (by unfold in32; omega) ?_
    refine m_iadd C dX8_allRingSo_30 ?_
    obtain ⟨hb, h⟩ := h
    refine f_iald C dX8_allRingSo_31 (m_arO (a := 0) (len := 48) rfl rfl) (by decide) hb ?_
    refine m_iload_n C dX8_allRingSo_32 rfl ?_
    refine f_callVi (As := [vI (μ 8 5 l4.toNat), vI a3, vI (μ 8 5 (w32 (l4 + 1)).toNat), vI a2]) (st := []) C dX8_allRingSo_33 ml_KilnBench_Sight_35 rfl (by decide) rfl rfl rfl (Nat.le_of_ble_eq_true rfl) h (fun r2 μ1 h => ?_)
    refine m_aload_n C dX8_allRingSo_36 rfl ?_
    refine f_getA C dX8_allRingSo_37 fl_KilnBench_Sight_24 rfl (by decide) (by decide) (by decide) (by decide) ?_
    refine m_iload C dX8_allRingSo_40 rfl ?_
    refine m_iconst C dX8_allRingSo_42 (by unfold in32; omega) ?_
    refine m_iadd C dX8_allRingSo_43 ?_
    obtain ⟨hb, h⟩ := h
    refine f_iald C dX8_allRingSo_44 (m_arO (a := 0) (len := 48) rfl rfl) (by decide) hb ?_
    refine m_icmp_eq (tgt := 50) C dX8_allRingSo_45 (by decide) (fun c => ?_) (fun c => ?_)
    · have h := h.1 c
      refine n_iinc (fun x3 => [some (vR 8 0), some (vR 4 0), some (vI a2), some (vI a3), some (vI x3)]) C dX8_allRingSo_50 rfl (by decide) (fun _ => rfl) (fun x3 ex3 => ?_)
      have h := h x3 ex3
      refine m_goto (tgt := 3) C dX8_allRingSo_53 (by decide) ?_
      exact h
    · have h := h.2 c
      refine m_iconst C dX8_allRingSo_48 (by unfold in32; omega) ?_
      exact f_zret C R rfl dX8_allRingSo_49 (by decide) h

set_option maxRecDepth 20000 in
theorem VX8_findTelling_0 {G : m_G} {X : m_X} {d : Nat} {K : Int → m_M → Prop} (C : mC G X YX8_findTelling (d + 1)) (R : r_i G X K) {μ : m_M} {a2 : Int}
    (h : c_i G d YX8_heatsLeft [vR 8 0, vR 4 0, vI a2] μ (fun r2 μ1 => ((¬ r2 = 0) → ∀ μ4 : m_M, μ4 = m_up μ1 8 0 1 (-1) → ∀ μ5 : m_M, μ5 = m_up μ4 8 0 3 22 → mW G X YX8_findTelling μ5 27 [some (vR 8 0), some (vR 4 0), some (vI a2), some (vI r2), some (vI 0), none, none] []) ∧ ((r2 = 0) → K 0 μ1))) :
    mW G X YX8_findTelling μ 0 [some (vR 8 0), some (vR 4 0), some (vI a2), none, none, none, none] [] := by
  refine m_aload_n C dX8_findTelling_0 rfl ?_
  refine m_aload_n C dX8_findTelling_1 rfl ?_
  refine m_iload_n C dX8_findTelling_2 rfl ?_
  refine f_callVi (As := [vR 4 0, vI a2]) (st := []) C dX8_findTelling_3 ml_KilnBench_Sight_41 rfl (by decide) rfl rfl rfl (Nat.le_of_ble_eq_true rfl) h (fun r2 μ1 h => ?_)
  refine o_istore_n [some (vR 8 0), some (vR 4 0), some (vI a2), some (vI r2), none, none, none] C dX8_findTelling_6 (by decide) rfl ?_
  refine m_iload_n C dX8_findTelling_7 rfl ?_
  refine m_if_ne (tgt := 13) C dX8_findTelling_8 (by decide) (fun c => ?_) (fun c => ?_)
  · have h := h.1 c
    refine m_aload_n C dX8_findTelling_13 rfl ?_
    refine m_iconst C dX8_findTelling_14 (by unfold in32; omega) ?_
    refine f_putI C dX8_findTelling_15 fl_KilnBench_Sight_15 rfl (by decide) (by decide) (by decide) ?_
    refine n_mem (fun μ4 eμ4 => ?_)
    have h := h μ4 eμ4
    refine m_aload_n C dX8_findTelling_18 rfl ?_
    refine m_bipush C dX8_findTelling_19 (by omega) ?_
    refine f_putI C dX8_findTelling_21 fl_KilnBench_Sight_21 rfl (by decide) (by decide) (by decide) ?_
    refine n_mem (fun μ5 eμ5 => ?_)
    have h := h μ5 eμ5
    refine m_iconst C dX8_findTelling_24 (by unfold in32; omega) ?_
    refine o_istore [some (vR 8 0), some (vR 4 0), some (vI a2), some (vI r2), some (vI 0), none, none] C dX8_findTelling_25 (by decide) rfl ?_
    exact h
  · have h := h.2 c
    refine m_iconst C dX8_findTelling_11 (by unfold in32; omega) ?_
    exact f_zret C R rfl dX8_findTelling_12 (by decide) h

set_option maxRecDepth 20000 in
theorem VX8_findTelling_27 {G : m_G} {X : m_X} {d : Nat} {K : Int → m_M → Prop} (C : mC G X YX8_findTelling (d + 1)) (R : r_i G X K) {μ : m_M} {a2 : Int} {l3 : Int} {l4 : Int}
    (h : ∃ t1 : Nat, μ 4 0 0 = 100 * (t1 : Int) ∧ m_cls t1 = 9 ∧ ((μ t1 0 3 ≤ l4) → ((μ 8 0 1 = (-1)) → K 0 μ) ∧ ((¬ μ 8 0 1 = (-1)) → K 1 μ)) ∧ ((¬ μ t1 0 3 ≤ l4) → mW G X YX8_findTelling μ 42 [some (vR 8 0), some (vR 4 0), some (vI a2), some (vI l3), some (vI l4), some (vI 0), none] [])) :
    mW G X YX8_findTelling μ 27 [some (vR 8 0), some (vR 4 0), some (vI a2), some (vI l3), some (vI l4), none, none] [] := by
  refine m_iload C dX8_findTelling_27 rfl ?_
  refine m_aload_n C dX8_findTelling_29 rfl ?_
  obtain ⟨t1, hx_t1, hc_t1, h⟩ := h
  refine f_getR (t := t1) (w := 0) C dX8_findTelling_30 fl_KilnBench_Sight_45 rfl (by decide) (by decide) (by rw [hx_t1]; omega) (by decide) (m_cls0 hc_t1 (by decide)) ?_
  refine f_getI C dX8_findTelling_33 fl_KilnBench_Sight_49 hc_t1 (by decide) (by decide) ?_
  refine m_icmp_ge (tgt := 101) C dX8_findTelling_36 (by decide) (fun c => ?_) (fun c => ?_)
  · have h := h.1 c
    refine m_aload_n C dX8_findTelling_101 rfl ?_
    refine f_getI C dX8_findTelling_102 fl_KilnBench_Sight_15 rfl (by decide) (by decide) ?_
    refine m_iconst C dX8_findTelling_105 (by unfold in32; omega) ?_
    refine m_icmp_eq (tgt := 113) C dX8_findTelling_106 (by decide) (fun c => ?_) (fun c => ?_)
    · have h := h.1 c
      refine m_iconst C dX8_findTelling_113 (by unfold in32; omega) ?_
      exact f_zret C R rfl dX8_findTelling_114 (by decide) h
    · have h := h.2 c
      refine m_iconst C dX8_findTelling_109 (by unfold in32; omega) ?_
      refine m_goto (tgt := 114) C dX8_findTelling_110 (by decide) ?_
      exact f_zret C R rfl dX8_findTelling_114 (by decide) h
  · have h := h.2 c
    refine m_iconst C dX8_findTelling_39 (by unfold in32; omega) ?_
    refine o_istore [some (vR 8 0), some (vR 4 0), some (vI a2), some (vI l3), some (vI l4), some (vI 0), none] C dX8_findTelling_40 (by decide) rfl ?_
    exact h

set_option maxRecDepth 20000 in
theorem VX8_findTelling_42 {G : m_G} {X : m_X} {d : Nat} {K : Int → m_M → Prop} (C : mC G X YX8_findTelling (d + 1)) (R : r_i G X K) {μ : m_M} {a2 : Int} {l3 : Int} {l4 : Int} {l5 : Int}
    (h : ((6 ≤ l5) → ∀ x1 : Int, x1 = w32 (l4 + 1) → mW G X YX8_findTelling μ 27 [some (vR 8 0), some (vR 4 0), some (vI a2), some (vI l3), some (vI x1), none, none] []) ∧ ((¬ 6 ≤ l5) → c_i G d YX8_mostLeft [vR 8 0, vR 4 0, vI a2, vI l4, vI l5, vI l3] μ (fun r3 μ2 => ((μ2 8 0 3 ≤ r3) → ∀ x5 : Int, x5 = w32 (l5 + 1) → mW G X YX8_findTelling μ2 42 [some (vR 8 0), some (vR 4 0), some (vI a2), some (vI l3), some (vI l4), some (vI x5), none] []) ∧ ((¬ μ2 8 0 3 ≤ r3) → ∀ μ6 : m_M, μ6 = m_up μ2 8 0 1 l4 → ∀ μ7 : m_M, μ7 = m_up μ6 8 0 2 l5 → ∀ μ8 : m_M, μ8 = m_up μ7 8 0 3 r3 → ∀ x9 : Int, x9 = w32 (l5 + 1) → mW G X YX8_findTelling μ8 42 [some (vR 8 0), some (vR 4 0), some (vI a2), some (vI l3), some (vI l4), some (vI x9), none] [])))) :
    mW G X YX8_findTelling μ 42 [some (vR 8 0), some (vR 4 0), some (vI a2), some (vI l3), some (vI l4), some (vI l5), none] [] := by
  refine m_iload C dX8_findTelling_42 rfl ?_
  refine m_bipush C dX8_findTelling_44 (by omega) ?_
  refine m_icmp_ge (tgt := 95) C dX8_findTelling_46 (by decide) (fun c => ?_) (fun c => ?_)
  · have h := h.1 c
    refine n_iinc (fun x1 => [some (vR 8 0), some (vR 4 0), some (vI a2), some (vI l3), some (vI x1), some (vI l5), none]) C dX8_findTelling_95 rfl (by decide) (fun _ => rfl) (fun x1 ex1 => ?_)
    have h := h x1 ex1
    refine m_goto (tgt := 27) C dX8_findTelling_98 (by decide) ?_
    exact n_weak (le_same (le_same (le_same (le_same (le_same (le_none (le_same le_nil))))))) h
  · have h := h.2 c
    refine m_aload_n C dX8_findTelling_49 rfl ?_
    refine m_aload_n C dX8_findTelling_50 rfl ?_
    refine m_iload_n C dX8_findTelling_51 rfl ?_
    refine m_iload C dX8_findTelling_52 rfl ?_
    refine m_iload C dX8_findTelling_54 rfl ?_
    refine m_iload_n C dX8_findTelling_56 rfl ?_
    refine f_callVi (As := [vR 4 0, vI a2, vI l4, vI l5, vI l3]) (st := []) C dX8_findTelling_57 ml_KilnBench_Sight_54 rfl (by decide) rfl rfl rfl (Nat.le_of_ble_eq_true rfl) h (fun r3 μ2 h => ?_)
    refine o_istore [some (vR 8 0), some (vR 4 0), some (vI a2), some (vI l3), some (vI l4), some (vI l5), some (vI r3)] C dX8_findTelling_60 (by decide) rfl ?_
    refine m_iload C dX8_findTelling_62 rfl ?_
    refine m_aload_n C dX8_findTelling_64 rfl ?_
    refine f_getI C dX8_findTelling_65 fl_KilnBench_Sight_21 rfl (by decide) (by decide) ?_
    refine m_icmp_ge (tgt := 89) C dX8_findTelling_68 (by decide) (fun c => ?_) (fun c => ?_)
    · have h := h.1 c
      refine n_iinc (fun x5 => [some (vR 8 0), some (vR 4 0), some (vI a2), some (vI l3), some (vI l4), some (vI x5), some (vI r3)]) C dX8_findTelling_89 rfl (by decide) (fun _ => rfl) (fun x5 ex5 => ?_)
      have h := h x5 ex5
      refine m_goto (tgt := 42) C dX8_findTelling_92 (by decide) ?_
      exact n_weak (le_same (le_same (le_same (le_same (le_same (le_same (le_none le_nil))))))) h
    · have h := h.2 c
      refine m_aload_n C dX8_findTelling_71 rfl ?_
      refine m_iload C dX8_findTelling_72 rfl ?_
      refine f_putI C dX8_findTelling_74 fl_KilnBench_Sight_15 rfl (by decide) (by decide) (by decide) ?_
      refine n_mem (fun μ6 eμ6 => ?_)
      have h := h μ6 eμ6
      refine m_aload_n C dX8_findTelling_77 rfl ?_
      refine m_iload C dX8_findTelling_78 rfl ?_
      refine f_putI C dX8_findTelling_80 fl_KilnBench_Sight_18 rfl (by decide) (by decide) (by decide) ?_
      refine n_mem (fun μ7 eμ7 => ?_)
      have h := h μ7 eμ7
      refine m_aload_n C dX8_findTelling_83 rfl ?_
      refine m_iload C dX8_findTelling_84 rfl ?_
      refine f_putI C dX8_findTelling_86 fl_KilnBench_Sight_21 rfl (by decide) (by decide) (by decide) ?_
      refine n_mem (fun μ8 eμ8 => ?_)
      have h := h μ8 eμ8
      refine n_iinc (fun x9 => [some (vR 8 0), some (vR 4 0), some (vI a2), some (vI l3), some (vI l4), some (vI x9), some (vI r3)]) C dX8_findTelling_89 rfl (by decide) (fun _ => rfl) (fun x9 ex9 => ?_)
      have h := h x9 ex9
      refine m_goto (tgt := 42) C dX8_findTelling_92 (by decide) ?_
      exact n_weak (le_same (le_same (le_same (le_same (le_same (le_same (le_none le_nil))))))) h

set_option maxRecDepth 20000 in
theorem VX8_mostLeft_0 {G : m_G} {X : m_X} {d : Nat} {K : Int → m_M → Prop} (C : mC G X YX8_mostLeft (d + 1)) (R : r_i G X K) {μ : m_M} {a2 : Int} {a3 : Int} {a4 : Int} {a5 : Int}
    (h : c_v G d YJ7_fill_53178 [vR 8 6, vI 0] μ (fun μ1 => mW G X YX8_mostLeft μ1 14 [some (vR 8 0), some (vR 4 0), some (vI a2), some (vI a3), some (vI a4), some (vI a5), some (vI 1), some (vI 0), none] [])) :
    mW G X YX8_mostLeft μ 0 [some (vR 8 0), some (vR 4 0), some (vI a2), some (vI a3), some (vI a4), some (vI a5), none, none, none] [] := by
  refine m_aload_n C dX8_mostLeft_0 rfl ?_
  refine f_getA C dX8_mostLeft_1 fl_KilnBench_Sight_28 rfl (by decide) (by decide) (by decide) (by decide) ?_
  refine m_iconst C dX8_mostLeft_4 (by unfold in32; omega) ?_
  refine f_callSv (As := [vR 8 6, vI 0]) (st := []) C dX8_mostLeft_5 ml_KilnBench_Sight_58 rfl rfl (Nat.le_of_ble_eq_true rfl) h (fun μ1 h => ?_)
  refine m_iconst C dX8_mostLeft_8 (by unfold in32; omega) ?_
  refine o_istore [some (vR 8 0), some (vR 4 0), some (vI a2), some (vI a3), some (vI a4), some (vI a5), some (vI 1), none, none] C dX8_mostLeft_9 (by decide) rfl ?_
  refine m_iconst C dX8_mostLeft_11 (by unfold in32; omega) ?_
  refine o_istore [some (vR 8 0), some (vR 4 0), some (vI a2), some (vI a3), some (vI a4), some (vI a5), some (vI 1), some (vI 0), none] C dX8_mostLeft_12 (by decide) rfl ?_
  exact h

set_option maxRecDepth 20000 in
theorem VX8_mostLeft_14 {G : m_G} {X : m_X} {d : Nat} {K : Int → m_M → Prop} (C : mC G X YX8_mostLeft (d + 1)) (R : r_i G X K) {μ : m_M} {a2 : Int} {a3 : Int} {a4 : Int} {a5 : Int} {l6 : Int} {l7 : Int}
    (h : ((20 < l7) → K l6 μ) ∧ ((¬ 20 < l7) → ((μ 8 0 3 ≤ l6) → K l6 μ) ∧ ((¬ μ 8 0 3 ≤ l6) → ((¬ (i_and (i_shr a5 l7) 1) = 1) → ∀ x1 : Int, x1 = w32 (l7 + 1) → mW G X YX8_mostLeft μ 14 [some (vR 8 0), some (vR 4 0), some (vI a2), some (vI a3), some (vI a4), some (vI a5), some (vI l6), some (vI x1), none] []) ∧ ((i_and (i_shr a5 l7) 1 = 1) → c_i G d YX4_temperOf [vR 4 0, vI a3, vI l7, vI a4, vI a2] μ (fun r3 μ2 => (0 ≤ r3 ∧ r3 < 100) ∧ (0 ≤ r3 ∧ r3 < 100) ∧ ∀ μ5 : m_M, μ5 = m_up μ2 8 6 r3.toNat (w32 ((μ2 8 6 r3.toNat) + 1)) → (0 ≤ r3 ∧ r3 < 100) ∧ ∀ x6 : Int, x6 = (if l6 < μ5 8 6 r3.toNat then μ5 8 6 r3.toNat else l6) → ∀ x7 : Int, x7 = w32 (l7 + 1) → mW G X YX8_mostLeft μ5 14 [some (vR 8 0), some (vR 4 0), some (vI a2), some (vI a3), some (vI a4), some (vI a5), some (vI x6), some (vI x7), none] []))))) :
    mW G X YX8_mostLeft μ 14 [some (vR 8 0), some (vR 4 0), some (vI a2), some (vI a3), some (vI a4), some (vI a5), some (vI l6), some (vI l7), none] [] := by
  refine m_iload C dX8_mostLeft_14 rfl ?_
  refine m_bipush C dX8_mostLeft_16 (by omega) ?_
  refine m_icmp_gt (tgt := 84) C dX8_mostLeft_18 (by decide) (fun c => ?_) (fun c => ?_)
  · have h := h.1 c
    refine m_iload C dX8_mostLeft_84 rfl ?_
    exact f_iret C R rfl dX8_mostLeft_86 h
  · have h := h.2 c
    refine m_iload C dX8_mostLeft_21 rfl ?_
    refine m_aload_n C dX8_mostLeft_23 rfl ?_
    refine f_getI C dX8_mostLeft_24 fl_KilnBench_Sight_21 rfl (by decide) (by decide) ?_
    refine m_icmp_ge (tgt := 84) C dX8_mostLeft_27 (by decide) (fun c => ?_) (fun c => ?_)
    · have h := h.1 c
      refine m_iload C dX8_mostLeft_84 rfl ?_
      exact f_iret C R rfl dX8_mostLeft_86 h
    · have h := h.2 c
      refine m_iload C dX8_mostLeft_30 rfl ?_
      refine m_iload C dX8_mostLeft_32 rfl ?_
      refine m_ishr C dX8_mostLeft_34 ?_
      refine m_iconst C dX8_mostLeft_35 (by unfold in32; omega) ?_
      refine m_iand C dX8_mostLeft_36 ?_
      refine m_iconst C dX8_mostLeft_37 (by unfold in32; omega) ?_
      refine m_icmp_ne (tgt := 78) C dX8_mostLeft_38 (by decide) (fun c => ?_) (fun c => ?_)
      · have h := h.1 c
        refine n_iinc (fun x1 => [some (vR 8 0), some (vR 4 0), some (vI a2), some (vI a3), some (vI a4), some (vI a5), some (vI l6), some (vI x1), none]) C dX8_mostLeft_78 rfl (by decide) (fun _ => rfl) (fun x1 ex1 => ?_)
        have h := h x1 ex1
        refine m_goto (tgt := 14) C dX8_mostLeft_81 (by decide) ?_
        exact h
      · have h := h.2 c
        refine m_aload_n C dX8_mostLeft_41 rfl ?_
        refine m_iload_n C dX8_mostLeft_42 rfl ?_
        refine m_iload C dX8_mostLeft_43 rfl ?_
        refine m_iload C dX8_mostLeft_45 rfl ?_
        refine m_iload_n C dX8_mostLeft_47 rfl ?_
        refine f_callVi (As := [vI a3, vI l7, vI a4, vI a2]) (st := []) C dX8_mostLeft_48 ml_KilnBench_Sight_35 rfl (by decide) rfl rfl rfl (Nat.le_of_ble_eq_true rfl) h (fun r3 μ2 h => ?_)
        refine o_istore [some (vR 8 0), some (vR 4 0), some (vI a2), some (vI a3), some (vI a4), some (vI a5), some (vI l6), some (vI l7), some (vI r3)] C dX8_mostLeft_51 (by decide) rfl ?_
        refine m_aload_n C dX8_mostLeft_53 rfl ?_
        refine f_getA C dX8_mostLeft_54 fl_KilnBench_Sight_28 rfl (by decide) (by decide) (by decide) (by decide) ?_
        refine m_iload C dX8_mostLeft_57 rfl ?_
        refine m_dup2 C dX8_mostLeft_59 rfl rfl ?_
        obtain ⟨hb, h⟩ := h
        refine f_iald C dX8_mostLeft_60 (m_arO (a := 0) (len := 100) rfl rfl) (by decide) hb ?_
        refine m_iconst C dX8_mostLeft_61 (by unfold in32; omega) ?_
        refine m_iadd C dX8_mostLeft_62 ?_
        obtain ⟨hb, h⟩ := h
        refine f_iast C dX8_mostLeft_63 (m_arO (a := 0) (len := 100) rfl rfl) (by decide) hb ?_
        refine n_mem (fun μ5 eμ5 => ?_)
        have h := h μ5 eμ5
        refine m_iload C dX8_mostLeft_64 rfl ?_
        refine m_aload_n C dX8_mostLeft_66 rfl ?_
        refine f_getA C dX8_mostLeft_67 fl_KilnBench_Sight_28 rfl (by decide) (by decide) (by decide) (by decide) ?_
        refine m_iload C dX8_mostLeft_70 rfl ?_
        obtain ⟨hb, h⟩ := h
        refine f_iald C dX8_mostLeft_72 (m_arO (a := 0) (len := 100) rfl rfl) (by decide) hb ?_
        refine m_mmax C dX8_mostLeft_73 mi_KilnBench_Sight_64 mb_mmaxs mb_ini mb_mmax (Nat.le_of_ble_eq_true rfl) (Nat.le_refl _) (Nat.le_refl _) ?_
        refine n_istore (fun x6 => [some (vR 8 0), some (vR 4 0), some (vI a2), some (vI a3), some (vI a4), some (vI a5), some (vI x6), some (vI l7), some (vI r3)]) C dX8_mostLeft_76 (by decide) (fun _ => rfl) (fun x6 ex6 => ?_)
        have h := h x6 ex6
        refine n_iinc (fun x7 => [some (vR 8 0), some (vR 4 0), some (vI a2), some (vI a3), some (vI a4), some (vI a5), some (vI x6), some (vI x7), some (vI r3)]) C dX8_mostLeft_78 rfl (by decide) (fun _ => rfl) (fun x7 ex7 => ?_)
        have h := h x7 ex7
        refine m_goto (tgt := 14) C dX8_mostLeft_81 (by decide) ?_
        exact n_weak (le_same (le_same (le_same (le_same (le_same (le_same (le_same (le_same (le_none le_nil))))))))) h

