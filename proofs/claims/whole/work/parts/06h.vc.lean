set_option maxRecDepth 20000 in
theorem VX12_town_0 {G : m_G} {X : m_X} {d : Nat} {K : Int → m_M → Prop} (C : mC G X YX12_town (d + 1)) (R : r_i G X K) {μ : m_M}
    (h : ∀ μ1 : m_M, μ1 = m_up μ 34 0 2 (μ 34 0 1) → ∀ μ2 : m_M, μ2 = m_up μ1 34 0 1 0 → ∀ μ3 : m_M, μ3 = m_up μ2 34 0 5 0 → ∀ μ4 : m_M, μ4 = m_up μ3 34 0 8 0 → ∀ μ5 : m_M, μ5 = m_up μ4 34 0 9 (-1) → ∀ μ6 : m_M, μ6 = m_up μ5 34 0 29 (w32 (1 - (μ5 34 0 13))) → (0 ≤ μ6 34 0 29 ∧ μ6 34 0 29 < 2) ∧ ∀ μ7 : m_M, μ7 = m_up μ6 34 15 (μ6 34 0 29).toNat 0 → (0 ≤ μ7 34 0 29 ∧ μ7 34 0 29 < 2) ∧ ∀ μ8 : m_M, μ8 = m_up μ7 34 18 (μ7 34 0 29).toNat 0 → (0 ≤ μ8 34 0 29 ∧ μ8 34 0 29 < 2) ∧ ∀ μ9 : m_M, μ9 = m_up μ8 34 20 (μ8 34 0 29).toNat 0 → (0 ≤ μ9 34 0 29 ∧ μ9 34 0 29 < 2) ∧ ∀ μ10 : m_M, μ10 = m_up μ9 34 21 (μ9 34 0 29).toNat 0 → (0 ≤ μ10 34 0 29 ∧ μ10 34 0 29 < 2) ∧ ∀ μ11 : m_M, μ11 = m_up μ10 34 22 (μ10 34 0 29).toNat 0 → ∀ x12 : Int, x12 = w32 (4 * (μ11 34 0 29)) → mW G X YX12_town μ11 95 [some (vR 34 0), some (vI x12)] []) :
    mW G X YX12_town μ 0 [some (vR 34 0), none] [] := by
  refine m_aload_n C dX12_town_0 rfl ?_
  refine m_aload_n C dX12_town_1 rfl ?_
  refine f_getI C dX12_town_2 fl_KilnBenchModel_13 rfl (by decide) (by decide) ?_
  refine f_putI C dX12_town_5 fl_KilnBenchModel_17 rfl (by decide) (by decide) (by decide) ?_
  refine n_mem (fun μ1 eμ1 => ?_)
  have h := h μ1 eμ1
  refine m_aload_n C dX12_town_8 rfl ?_
  refine m_iconst C dX12_town_9 (by unfold in32; omega) ?_
  refine f_putI C dX12_town_10 fl_KilnBenchModel_13 rfl (by decide) (by decide) (by decide) ?_
  refine n_mem (fun μ2 eμ2 => ?_)
  have h := h μ2 eμ2
  refine m_aload_n C dX12_town_13 rfl ?_
  refine m_iconst C dX12_town_14 (by unfold in32; omega) ?_
  refine f_putI C dX12_town_15 fl_KilnBenchModel_26 rfl (by decide) (by decide) (by decide) ?_
  refine n_mem (fun μ3 eμ3 => ?_)
  have h := h μ3 eμ3
  refine m_aload_n C dX12_town_18 rfl ?_
  refine m_iconst C dX12_town_19 (by unfold in32; omega) ?_
  refine f_putI C dX12_town_20 fl_KilnBenchModel_36 rfl (by decide) (by decide) (by decide) ?_
  refine n_mem (fun μ4 eμ4 => ?_)
  have h := h μ4 eμ4
  refine m_aload_n C dX12_town_23 rfl ?_
  refine m_iconst C dX12_town_24 (by unfold in32; omega) ?_
  refine f_putI C dX12_town_25 fl_KilnBenchModel_39 rfl (by decide) (by decide) (by decide) ?_
  refine n_mem (fun μ5 eμ5 => ?_)
  have h := h μ5 eμ5
  refine m_aload_n C dX12_town_28 rfl ?_
  refine m_iconst C dX12_town_29 (by unfold in32; omega) ?_
  refine m_aload_n C dX12_town_30 rfl ?_
  refine f_getI C dX12_town_31 fl_KilnBenchModel_51 rfl (by decide) (by decide) ?_
  refine m_isub C dX12_town_34 ?_
  refine f_putI C dX12_town_35 fl_KilnBenchModel_100 rfl (by decide) (by decide) (by decide) ?_
  refine n_mem (fun μ6 eμ6 => ?_)
  have h := h μ6 eμ6
  refine m_aload_n C dX12_town_38 rfl ?_
  refine f_getA C dX12_town_39 fl_KilnBenchModel_54 rfl (by decide) (by decide) (by decide) (by decide) ?_
  refine m_aload_n C dX12_town_42 rfl ?_
  refine f_getI C dX12_town_43 fl_KilnBenchModel_100 rfl (by decide) (by decide) ?_
  refine m_iconst C dX12_town_46 (by unfold in32; omega) ?_
  obtain ⟨hb, h⟩ := h
  refine f_iast C dX12_town_47 (m_arO (a := 0) (len := 2) rfl rfl) (by decide) hb ?_
  refine n_mem (fun μ7 eμ7 => ?_)
  have h := h μ7 eμ7
  refine m_aload_n C dX12_town_48 rfl ?_
  refine f_getA C dX12_town_49 fl_KilnBenchModel_63 rfl (by decide) (by decide) (by decide) (by decide) ?_
  refine m_aload_n C dX12_town_52 rfl ?_
  refine f_getI C dX12_town_53 fl_KilnBenchModel_100 rfl (by decide) (by decide) ?_
  refine m_iconst C dX12_town_56 (by unfold in32; omega) ?_
  obtain ⟨hb, h⟩ := h
  refine f_iast C dX12_town_57 (m_arO (a := 0) (len := 2) rfl rfl) (by decide) hb ?_
  refine n_mem (fun μ8 eμ8 => ?_)
  have h := h μ8 eμ8
  refine m_aload_n C dX12_town_58 rfl ?_
  refine f_getA C dX12_town_59 fl_KilnBenchModel_69 rfl (by decide) (by decide) (by decide) (by decide) ?_
  refine m_aload_n C dX12_town_62 rfl ?_
  refine f_getI C dX12_town_63 fl_KilnBenchModel_100 rfl (by decide) (by decide) ?_
  refine m_iconst C dX12_town_66 (by unfold in32; omega) ?_
  obtain ⟨hb, h⟩ := h
  refine f_iast C dX12_town_67 (m_arO (a := 0) (len := 2) rfl rfl) (by decide) hb ?_
  refine n_mem (fun μ9 eμ9 => ?_)
  have h := h μ9 eμ9
  refine m_aload_n C dX12_town_68 rfl ?_
  refine f_getA C dX12_town_69 fl_KilnBenchModel_72 rfl (by decide) (by decide) (by decide) (by decide) ?_
  refine m_aload_n C dX12_town_72 rfl ?_
  refine f_getI C dX12_town_73 fl_KilnBenchModel_100 rfl (by decide) (by decide) ?_
  refine m_iconst C dX12_town_76 (by unfold in32; omega) ?_
  obtain ⟨hb, h⟩ := h
  refine f_iast C dX12_town_77 (m_arO (a := 0) (len := 2) rfl rfl) (by decide) hb ?_
  refine n_mem (fun μ10 eμ10 => ?_)
  have h := h μ10 eμ10
  refine m_aload_n C dX12_town_78 rfl ?_
  refine f_getA C dX12_town_79 fl_KilnBenchModel_75 rfl (by decide) (by decide) (by decide) (by decide) ?_
  refine m_aload_n C dX12_town_82 rfl ?_
  refine f_getI C dX12_town_83 fl_KilnBenchModel_100 rfl (by decide) (by decide) ?_
  refine m_iconst C dX12_town_86 (by unfold in32; omega) ?_
  obtain ⟨hb, h⟩ := h
  refine f_iast C dX12_town_87 (m_arO (a := 0) (len := 2) rfl rfl) (by decide) hb ?_
  refine n_mem (fun μ11 eμ11 => ?_)
  have h := h μ11 eμ11
  refine m_iconst C dX12_town_88 (by unfold in32; omega) ?_
  refine m_aload_n C dX12_town_89 rfl ?_
  refine f_getI C dX12_town_90 fl_KilnBenchModel_100 rfl (by decide) (by decide) ?_
  refine m_imul C dX12_town_93 ?_
  refine n_istore_n (fun x12 => [some (vR 34 0), some (vI x12)]) C dX12_town_94 (by decide) (fun _ => rfl) (fun x12 ex12 => ?_)
  have h := h x12 ex12
  exact h

set_option maxRecDepth 20000 in
theorem VX12_town_95 {G : m_G} {X : m_X} {d : Nat} {K : Int → m_M → Prop} (C : mC G X YX12_town (d + 1)) (R : r_i G X K) {μ : m_M} {l1 : Int}
    (h : ((w32 ((w32 (4 * (μ 34 0 29))) + 4) ≤ l1) → ∀ μ1 : m_M, μ1 = m_up μ 34 0 28 0 → c_v G d YX12_ahead [vR 34 0] μ1 (fun μ3 => mW G X YX12_town μ3 131 [some (vR 34 0), some (vI 0)] [])) ∧ ((¬ w32 ((w32 (4 * (μ 34 0 29))) + 4) ≤ l1) → (0 ≤ l1 ∧ l1 < 8) ∧ ∀ μ4 : m_M, μ4 = m_up μ 34 23 l1.toNat (-1) → ∀ x5 : Int, x5 = w32 (l1 + 1) → mW G X YX12_town μ4 95 [some (vR 34 0), some (vI x5)] [])) :
    mW G X YX12_town μ 95 [some (vR 34 0), some (vI l1)] [] := by
  refine m_iload_n C dX12_town_95 rfl ?_
  refine m_iconst C dX12_town_96 (by unfold in32; omega) ?_
  refine m_aload_n C dX12_town_97 rfl ?_
  refine f_getI C dX12_town_98 fl_KilnBenchModel_100 rfl (by decide) (by decide) ?_
  refine m_imul C dX12_town_101 ?_
  refine m_iconst C dX12_town_102 (by unfold in32; omega) ?_
  refine m_iadd C dX12_town_103 ?_
  refine m_icmp_ge (tgt := 120) C dX12_town_104 (by decide) (fun c => ?_) (fun c => ?_)
  · have h := h.1 c
    refine m_aload_n C dX12_town_120 rfl ?_
    refine m_iconst C dX12_town_121 (by unfold in32; omega) ?_
    refine f_putI C dX12_town_122 fl_KilnBenchModel_97 rfl (by decide) (by decide) (by decide) ?_
    refine n_mem (fun μ1 eμ1 => ?_)
    have h := h μ1 eμ1
    refine m_iconst C dX12_town_125 (by unfold in32; omega) ?_
    refine o_istore_n [some (vR 34 0), some (vI 0)] C dX12_town_126 (by decide) rfl ?_
    refine m_aload_n C dX12_town_127 rfl ?_
    refine f_callVv (As := []) (st := []) C dX12_town_128 ml_KilnBenchModel_241 rfl (by decide) rfl rfl rfl (Nat.le_of_ble_eq_true rfl) h (fun μ3 h => ?_)
    exact h
  · have h := h.2 c
    refine m_aload_n C dX12_town_107 rfl ?_
    refine f_getA C dX12_town_108 fl_KilnBenchModel_78 rfl (by decide) (by decide) (by decide) (by decide) ?_
    refine m_iload_n C dX12_town_111 rfl ?_
    refine m_iconst C dX12_town_112 (by unfold in32; omega) ?_
    obtain ⟨hb, h⟩ := h
    refine f_iast C dX12_town_113 (m_arO (a := 0) (len := 8) rfl rfl) (by decide) hb ?_
    refine n_mem (fun μ4 eμ4 => ?_)
    have h := h μ4 eμ4
    refine n_iinc (fun x5 => [some (vR 34 0), some (vI x5)]) C dX12_town_114 rfl (by decide) (fun _ => rfl) (fun x5 ex5 => ?_)
    have h := h x5 ex5
    refine m_goto (tgt := 95) C dX12_town_117 (by decide) ?_
    exact h

set_option maxRecDepth 20000 in
theorem VX12_town_131 {G : m_G} {X : m_X} {d : Nat} {K : Int → m_M → Prop} (C : mC G X YX12_town (d + 1)) (R : r_i G X K) {μ : m_M} {l1 : Int}
    (h : ((¬ (μ 34 0 8) = 0) → mW G X YX12_town μ 160 [some (vR 34 0), some (vI l1)] []) ∧ ((μ 34 0 8 = 0) → ((μ 34 0 3 = 0) → mW G X YX12_town μ 160 [some (vR 34 0), some (vI l1)] []) ∧ ((¬ μ 34 0 3 = 0) → c_v G d YX12_statement [vR 34 0] μ (fun μ1 => ∀ x2 : Int, x2 = w32 (l1 + 1) → c_v G d YX12_finishes [vR 34 0, vI x2] μ1 (fun μ3 => mW G X YX12_town μ3 131 [some (vR 34 0), some (vI x2)] []))))) :
    mW G X YX12_town μ 131 [some (vR 34 0), some (vI l1)] [] := by
  refine m_aload_n C dX12_town_131 rfl ?_
  refine f_getI C dX12_town_132 fl_KilnBenchModel_36 rfl (by decide) (by decide) ?_
  refine m_if_ne (tgt := 160) C dX12_town_135 (by decide) (fun c => ?_) (fun c => ?_)
  · have h := h.1 c
    exact h
  · have h := h.2 c
    refine m_aload_n C dX12_town_138 rfl ?_
    refine f_getI C dX12_town_139 fl_KilnBenchModel_20 rfl (by decide) (by decide) ?_
    refine m_if_eq (tgt := 160) C dX12_town_142 (by decide) (fun c => ?_) (fun c => ?_)
    · have h := h.1 c
      exact h
    · have h := h.2 c
      refine m_aload_n C dX12_town_145 rfl ?_
      refine f_callVv (As := []) (st := []) C dX12_town_146 ml_KilnBenchModel_374 rfl (by decide) rfl rfl rfl (Nat.le_of_ble_eq_true rfl) h (fun μ1 h => ?_)
      refine n_iinc (fun x2 => [some (vR 34 0), some (vI x2)]) C dX12_town_149 rfl (by decide) (fun _ => rfl) (fun x2 ex2 => ?_)
      have h := h x2 ex2
      refine m_aload_n C dX12_town_152 rfl ?_
      refine m_iload_n C dX12_town_153 rfl ?_
      refine f_callVv (As := [vI x2]) (st := []) C dX12_town_154 ml_KilnBenchModel_377 rfl (by decide) rfl rfl rfl (Nat.le_of_ble_eq_true rfl) h (fun μ3 h => ?_)
      refine m_goto (tgt := 131) C dX12_town_157 (by decide) ?_
      exact h

set_option maxRecDepth 20000 in
theorem VX12_town_160 {G : m_G} {X : m_X} {d : Nat} {K : Int → m_M → Prop} (C : mC G X YX12_town (d + 1)) (R : r_i G X K) {μ : m_M} {l1 : Int}
    (h : ∀ μ1 : m_M, μ1 = m_up μ 34 0 10 (μ 34 0 8) → ∀ μ2 : m_M, μ2 = m_up μ1 34 0 11 (μ1 34 0 9) → ((μ2 34 0 8 ≤ 0) → ∀ μ3 : m_M, μ3 = m_up μ2 34 0 13 (μ2 34 0 29) → c_v G d YX12_begin [vR 34 0] μ3 (fun μ4 => K l1 μ4)) ∧ ((¬ μ2 34 0 8 ≤ 0) → c_i G d YX12_refuses [vR 34 0, vI 1] μ2 (fun r6 μ5 => K r6 μ5))) :
    mW G X YX12_town μ 160 [some (vR 34 0), some (vI l1)] [] := by
  refine m_aload_n C dX12_town_160 rfl ?_
  refine m_aload_n C dX12_town_161 rfl ?_
  refine f_getI C dX12_town_162 fl_KilnBenchModel_36 rfl (by decide) (by decide) ?_
  refine f_putI C dX12_town_165 fl_KilnBenchModel_42 rfl (by decide) (by decide) (by decide) ?_
  refine n_mem (fun μ1 eμ1 => ?_)
  have h := h μ1 eμ1
  refine m_aload_n C dX12_town_168 rfl ?_
  refine m_aload_n C dX12_town_169 rfl ?_
  refine f_getI C dX12_town_170 fl_KilnBenchModel_39 rfl (by decide) (by decide) ?_
  refine f_putI C dX12_town_173 fl_KilnBenchModel_45 rfl (by decide) (by decide) (by decide) ?_
  refine n_mem (fun μ2 eμ2 => ?_)
  have h := h μ2 eμ2
  refine m_aload_n C dX12_town_176 rfl ?_
  refine f_getI C dX12_town_177 fl_KilnBenchModel_36 rfl (by decide) (by decide) ?_
  refine m_if_le (tgt := 189) C dX12_town_180 (by decide) (fun c => ?_) (fun c => ?_)
  · have h := h.1 c
    refine m_aload_n C dX12_town_189 rfl ?_
    refine m_aload_n C dX12_town_190 rfl ?_
    refine f_getI C dX12_town_191 fl_KilnBenchModel_100 rfl (by decide) (by decide) ?_
    refine f_putI C dX12_town_194 fl_KilnBenchModel_51 rfl (by decide) (by decide) (by decide) ?_
    refine n_mem (fun μ3 eμ3 => ?_)
    have h := h μ3 eμ3
    refine m_aload_n C dX12_town_197 rfl ?_
    refine f_callVv (As := []) (st := []) C dX12_town_198 ml_KilnBenchModel_380 rfl (by decide) rfl rfl rfl (Nat.le_of_ble_eq_true rfl) h (fun μ4 h => ?_)
    refine m_iload_n C dX12_town_201 rfl ?_
    exact f_iret C R rfl dX12_town_202 h
  · have h := h.2 c
    refine m_aload_n C dX12_town_183 rfl ?_
    refine m_iconst C dX12_town_184 (by unfold in32; omega) ?_
    refine f_callVi (As := [vI 1]) (st := []) C dX12_town_185 ml_KilnBenchModel_216 rfl (by decide) rfl rfl rfl (Nat.le_of_ble_eq_true rfl) h (fun r6 μ5 h => ?_)
    exact f_iret C R rfl dX12_town_188 h

set_option maxRecDepth 20000 in
theorem VX12_fault_0 {G : m_G} {X : m_X} {d : Nat} {K : Int → m_M → Prop} (C : mC G X YX12_fault (d + 1)) (R : r_i G X K) {μ : m_M} {a1 : Int}
    (h : ((¬ a1 = 0) → ((¬ a1 = 1) → K (-1) μ) ∧ ((a1 = 1) → K (μ 34 0 11) μ)) ∧ ((a1 = 0) → K (μ 34 0 10) μ)) :
    mW G X YX12_fault μ 0 [some (vR 34 0), some (vI a1)] [] := by
  refine m_iload_n C dX12_fault_0 rfl ?_
  refine m_if_ne (tgt := 11) C dX12_fault_1 (by decide) (fun c => ?_) (fun c => ?_)
  · have h := h.1 c
    refine m_iload_n C dX12_fault_11 rfl ?_
    refine m_iconst C dX12_fault_12 (by unfold in32; omega) ?_
    refine m_icmp_ne (tgt := 23) C dX12_fault_13 (by decide) (fun c => ?_) (fun c => ?_)
    · have h := h.1 c
      refine m_iconst C dX12_fault_23 (by unfold in32; omega) ?_
      exact f_iret C R rfl dX12_fault_24 h
    · have h := h.2 c
      refine m_aload_n C dX12_fault_16 rfl ?_
      refine f_getI C dX12_fault_17 fl_KilnBenchModel_45 rfl (by decide) (by decide) ?_
      refine m_goto (tgt := 24) C dX12_fault_20 (by decide) ?_
      exact f_iret C R rfl dX12_fault_24 h
  · have h := h.2 c
    refine m_aload_n C dX12_fault_4 rfl ?_
    refine f_getI C dX12_fault_5 fl_KilnBenchModel_42 rfl (by decide) (by decide) ?_
    refine m_goto (tgt := 24) C dX12_fault_8 (by decide) ?_
    exact f_iret C R rfl dX12_fault_24 h

set_option maxRecDepth 20000 in
theorem VX12_refuses_0 {G : m_G} {X : m_X} {d : Nat} {K : Int → m_M → Prop} (C : mC G X YX12_refuses (d + 1)) (R : r_i G X K) {μ : m_M} {a1 : Int}
    (h : (0 ≤ a1 ∧ a1 < 6) ∧ (0 ≤ a1 ∧ a1 < 6) ∧ ∀ μ1 : m_M, μ1 = m_up μ 34 42 a1.toNat (w32 ((μ 34 42 a1.toNat) + 1)) → K (-1) μ1) :
    mW G X YX12_refuses μ 0 [some (vR 34 0), some (vI a1)] [] := by
  refine m_aload_n C dX12_refuses_0 rfl ?_
  refine f_getA C dX12_refuses_1 fl_KilnBenchModel_138 rfl (by decide) (by decide) (by decide) (by decide) ?_
  refine m_iload_n C dX12_refuses_4 rfl ?_
  refine m_dup2 C dX12_refuses_5 rfl rfl ?_
  obtain ⟨hb, h⟩ := h
  refine f_iald C dX12_refuses_6 (m_arO (a := 0) (len := 6) rfl rfl) (by decide) hb ?_
  refine m_iconst C dX12_refuses_7 (by unfold in32; omega) ?_
  refine m_iadd C dX12_refuses_8 ?_
  obtain ⟨hb, h⟩ := h
  refine f_iast C dX12_refuses_9 (m_arO (a := 0) (len := 6) rfl rfl) (by decide) hb ?_
  refine n_mem (fun μ1 eμ1 => ?_)
  have h := h μ1 eμ1
  refine m_iconst C dX12_refuses_10 (by unfold in32; omega) ?_
  exact f_iret C R rfl dX12_refuses_11 h

set_option maxRecDepth 20000 in
theorem VX12_status_0 {G : m_G} {X : m_X} {d : Nat} {K : Int → m_M → Prop} (C : mC G X YX12_status (d + 1)) (R : r_i G X K) {μ : m_M} {a1 : Int}
    (h : c_i G d YX12_is [vI a1, vI 0, vI 5] μ (fun r2 μ1 => ((r2 = 0) → K (-1) μ1) ∧ ((¬ r2 = 0) → (0 ≤ a1 ∧ a1 < 6) ∧ K (μ1 34 42 a1.toNat) μ1))) :
    mW G X YX12_status μ 0 [some (vR 34 0), some (vI a1)] [] := by
  refine m_iload_n C dX12_status_0 rfl ?_
  refine m_iconst C dX12_status_1 (by unfold in32; omega) ?_
  refine m_iconst C dX12_status_2 (by unfold in32; omega) ?_
  refine f_callSi (As := [vI a1, vI 0, vI 5]) (st := []) C dX12_status_3 ml_KilnBenchModel_296 rfl rfl (Nat.le_of_ble_eq_true rfl) h (fun r2 μ1 h => ?_)
  refine m_if_eq (tgt := 18) C dX12_status_6 (by decide) (fun c => ?_) (fun c => ?_)
  · have h := h.1 c
    refine m_iconst C dX12_status_18 (by unfold in32; omega) ?_
    exact f_iret C R rfl dX12_status_19 h
  · have h := h.2 c
    refine m_aload_n C dX12_status_9 rfl ?_
    refine f_getA C dX12_status_10 fl_KilnBenchModel_138 rfl (by decide) (by decide) (by decide) (by decide) ?_
    refine m_iload_n C dX12_status_13 rfl ?_
    obtain ⟨hb, h⟩ := h
    refine f_iald C dX12_status_14 (m_arO (a := 0) (len := 6) rfl rfl) (by decide) hb ?_
    refine m_goto (tgt := 19) C dX12_status_15 (by decide) ?_
    exact f_iret C R rfl dX12_status_19 h

set_option maxRecDepth 20000 in
theorem VX12_copies_0 {G : m_G} {X : m_X} {d : Nat} {K : m_M → Prop} (C : mC G X YX12_copies (d + 1)) (R : r_v G X K) {μ : m_M} {a1 : Int} {a2 : Int}
    (h : (0 ≤ a2 ∧ a2 < 22) ∧ (0 ≤ a1 ∧ a1 < 22) ∧ ∀ μ1 : m_M, μ1 = m_up μ 34 43 a1.toNat (μ 34 43 a2.toNat) → (0 ≤ a2 ∧ a2 < 22) ∧ (0 ≤ a1 ∧ a1 < 22) ∧ ∀ μ2 : m_M, μ2 = m_up μ1 34 44 a1.toNat (μ1 34 44 a2.toNat) → (0 ≤ a2 ∧ a2 < 22) ∧ (0 ≤ a1 ∧ a1 < 22) ∧ ∀ μ3 : m_M, μ3 = m_up μ2 34 49 a1.toNat (μ2 34 49 a2.toNat) → mW G X YX12_copies μ3 38 [some (vR 34 0), some (vI a1), some (vI a2), some (vI 0)] []) :
    mW G X YX12_copies μ 0 [some (vR 34 0), some (vI a1), some (vI a2), none] [] := by
  refine m_aload_n C dX12_copies_0 rfl ?_
  refine f_getA C dX12_copies_1 fl_KilnBenchModel_141 rfl (by decide) (by decide) (by decide) (by decide) ?_
  refine m_iload_n C dX12_copies_4 rfl ?_
  refine m_aload_n C dX12_copies_5 rfl ?_
  refine f_getA C dX12_copies_6 fl_KilnBenchModel_141 rfl (by decide) (by decide) (by decide) (by decide) ?_
  refine m_iload_n C dX12_copies_9 rfl ?_
  obtain ⟨hb, h⟩ := h
  refine f_iald C dX12_copies_10 (m_arO (a := 0) (len := 22) rfl rfl) (by decide) hb ?_
  obtain ⟨hb, h⟩ := h
  refine f_iast C dX12_copies_11 (m_arO (a := 0) (len := 22) rfl rfl) (by decide) hb ?_
  refine n_mem (fun μ1 eμ1 => ?_)
  have h := h μ1 eμ1
  refine m_aload_n C dX12_copies_12 rfl ?_
  refine f_getA C dX12_copies_13 fl_KilnBenchModel_144 rfl (by decide) (by decide) (by decide) (by decide) ?_
  refine m_iload_n C dX12_copies_16 rfl ?_
  refine m_aload_n C dX12_copies_17 rfl ?_
  refine f_getA C dX12_copies_18 fl_KilnBenchModel_144 rfl (by decide) (by decide) (by decide) (by decide) ?_
  refine m_iload_n C dX12_copies_21 rfl ?_
  obtain ⟨hb, h⟩ := h
  refine f_iald C dX12_copies_22 (m_arO (a := 0) (len := 22) rfl rfl) (by decide) hb ?_
  obtain ⟨hb, h⟩ := h
  refine f_iast C dX12_copies_23 (m_arO (a := 0) (len := 22) rfl rfl) (by decide) hb ?_
  refine n_mem (fun μ2 eμ2 => ?_)
  have h := h μ2 eμ2
  refine m_aload_n C dX12_copies_24 rfl ?_
  refine f_getA C dX12_copies_25 fl_KilnBenchModel_159 rfl (by decide) (by decide) (by decide) (by decide) ?_
  refine m_iload_n C dX12_copies_28 rfl ?_
  refine m_aload_n C dX12_copies_29 rfl ?_
  refine f_getA C dX12_copies_30 fl_KilnBenchModel_159 rfl (by decide) (by decide) (by decide) (by decide) ?_
  refine m_iload_n C dX12_copies_33 rfl ?_
  obtain ⟨hb, h⟩ := h
  refine f_iald C dX12_copies_34 (m_arO (a := 0) (len := 22) rfl rfl) (by decide) hb ?_
  obtain ⟨hb, h⟩ := h
  refine f_iast C dX12_copies_35 (m_arO (a := 0) (len := 22) rfl rfl) (by decide) hb ?_
  refine n_mem (fun μ3 eμ3 => ?_)
  have h := h μ3 eμ3
  refine m_iconst C dX12_copies_36 (by unfold in32; omega) ?_
  refine o_istore_n [some (vR 34 0), some (vI a1), some (vI a2), some (vI 0)] C dX12_copies_37 (by decide) rfl ?_
  exact h

set_option maxRecDepth 20000 in
theorem VX12_copies_38 {G : m_G} {X : m_X} {d : Nat} {K : m_M → Prop} (C : mC G X YX12_copies (d + 1)) (R : r_v G X K) {μ : m_M} {a1 : Int} {a2 : Int} {l3 : Int}
    (h : ((8 ≤ l3) → mW G X YX12_copies μ 140 [some (vR 34 0), some (vI a1), some (vI a2), some (vI 0)] []) ∧ ((¬ 8 ≤ l3) → (0 ≤ w32 ((w32 (8 * a2)) + l3) ∧ w32 ((w32 (8 * a2)) + l3) < 176) ∧ (0 ≤ w32 ((w32 (8 * a1)) + l3) ∧ w32 ((w32 (8 * a1)) + l3) < 176) ∧ ∀ μ2 : m_M, μ2 = m_up μ 34 45 (w32 ((w32 (8 * a1)) + l3)).toNat (μ 34 45 (w32 ((w32 (8 * a2)) + l3)).toNat) → (0 ≤ w32 ((w32 (8 * a2)) + l3) ∧ w32 ((w32 (8 * a2)) + l3) < 176) ∧ (0 ≤ w32 ((w32 (8 * a1)) + l3) ∧ w32 ((w32 (8 * a1)) + l3) < 176) ∧ ∀ μ3 : m_M, μ3 = m_up μ2 34 46 (w32 ((w32 (8 * a1)) + l3)).toNat (μ2 34 46 (w32 ((w32 (8 * a2)) + l3)).toNat) → (0 ≤ w32 ((w32 (8 * a2)) + l3) ∧ w32 ((w32 (8 * a2)) + l3) < 176) ∧ (0 ≤ w32 ((w32 (8 * a1)) + l3) ∧ w32 ((w32 (8 * a1)) + l3) < 176) ∧ ∀ μ4 : m_M, μ4 = m_up μ3 34 47 (w32 ((w32 (8 * a1)) + l3)).toNat (μ3 34 47 (w32 ((w32 (8 * a2)) + l3)).toNat) → (0 ≤ w32 ((w32 (8 * a2)) + l3) ∧ w32 ((w32 (8 * a2)) + l3) < 176) ∧ (0 ≤ w32 ((w32 (8 * a1)) + l3) ∧ w32 ((w32 (8 * a1)) + l3) < 176) ∧ ∀ μ5 : m_M, μ5 = m_up μ4 34 48 (w32 ((w32 (8 * a1)) + l3)).toNat (μ4 34 48 (w32 ((w32 (8 * a2)) + l3)).toNat) → ∀ x6 : Int, x6 = w32 (l3 + 1) → mW G X YX12_copies μ5 38 [some (vR 34 0), some (vI a1), some (vI a2), some (vI x6)] [])) :
    mW G X YX12_copies μ 38 [some (vR 34 0), some (vI a1), some (vI a2), some (vI l3)] [] := by
  refine m_iload_n C dX12_copies_38 rfl ?_
  refine m_bipush C dX12_copies_39 (by omega) ?_
  refine m_icmp_ge (tgt := 138) C dX12_copies_41 (by decide) (fun c => ?_) (fun c => ?_)
  · have h := h.1 c
    refine m_iconst C dX12_copies_138 (by unfold in32; omega) ?_
    refine o_istore_n [some (vR 34 0), some (vI a1), some (vI a2), some (vI 0)] C dX12_copies_139 (by decide) rfl ?_
    exact h
  · have h := h.2 c
    refine m_aload_n C dX12_copies_44 rfl ?_
    refine f_getA C dX12_copies_45 fl_KilnBenchModel_147 rfl (by decide) (by decide) (by decide) (by decide) ?_
    refine m_bipush C dX12_copies_48 (by omega) ?_
    refine m_iload_n C dX12_copies_50 rfl ?_
    refine m_imul C dX12_copies_51 ?_
    refine m_iload_n C dX12_copies_52 rfl ?_
    refine m_iadd C dX12_copies_53 ?_
    refine m_aload_n C dX12_copies_54 rfl ?_
    refine f_getA C dX12_copies_55 fl_KilnBenchModel_147 rfl (by decide) (by decide) (by decide) (by decide) ?_
    refine m_bipush C dX12_copies_58 (by omega) ?_
    refine m_iload_n C dX12_copies_60 rfl ?_
    refine m_imul C dX12_copies_61 ?_
    refine m_iload_n C dX12_copies_62 rfl ?_
    refine m_iadd C dX12_copies_63 ?_
    obtain ⟨hb, h⟩ := h
    refine f_iald C dX12_copies_64 (m_arO (a := 0) (len := 176) rfl rfl) (by decide) hb ?_
    obtain ⟨hb, h⟩ := h
    refine f_iast C dX12_copies_65 (m_arO (a := 0) (len := 176) rfl rfl) (by decide) hb ?_
    refine n_mem (fun μ2 eμ2 => ?_)
    have h := h μ2 eμ2
    refine m_aload_n C dX12_copies_66 rfl ?_
    refine f_getA C dX12_copies_67 fl_KilnBenchModel_150 rfl (by decide) (by decide) (by decide) (by decide) ?_
    refine m_bipush C dX12_copies_70 (by omega) ?_
    refine m_iload_n C dX12_copies_72 rfl ?_
    refine m_imul C dX12_copies_73 ?_
    refine m_iload_n C dX12_copies_74 rfl ?_
    refine m_iadd C dX12_copies_75 ?_
    refine m_aload_n C dX12_copies_76 rfl ?_
    refine f_getA C dX12_copies_77 fl_KilnBenchModel_150 rfl (by decide) (by decide) (by decide) (by decide) ?_
    refine m_bipush C dX12_copies_80 (by omega) ?_
    refine m_iload_n C dX12_copies_82 rfl ?_
    refine m_imul C dX12_copies_83 ?_
    refine m_iload_n C dX12_copies_84 rfl ?_
    refine m_iadd C dX12_copies_85 ?_
    obtain ⟨hb, h⟩ := h
    refine f_iald C dX12_copies_86 (m_arO (a := 0) (len := 176) rfl rfl) (by decide) hb ?_
    obtain ⟨hb, h⟩ := h
    refine f_iast C dX12_copies_87 (m_arO (a := 0) (len := 176) rfl rfl) (by decide) hb ?_
    refine n_mem (fun μ3 eμ3 => ?_)
    have h := h μ3 eμ3
    refine m_aload_n C dX12_copies_88 rfl ?_
    refine f_getA C dX12_copies_89 fl_KilnBenchModel_153 rfl (by decide) (by decide) (by decide) (by decide) ?_
    refine m_bipush C dX12_copies_92 (by omega) ?_
    refine m_iload_n C dX12_copies_94 rfl ?_
    refine m_imul C dX12_copies_95 ?_
    refine m_iload_n C dX12_copies_96 rfl ?_
    refine m_iadd C dX12_copies_97 ?_
    refine m_aload_n C dX12_copies_98 rfl ?_
    refine f_getA C dX12_copies_99 fl_KilnBenchModel_153 rfl (by decide) (by decide) (by decide) (by decide) ?_
    refine m_bipush C dX12_copies_102 (by omega) ?_
    refine m_iload_n C dX12_copies_104 rfl ?_
    refine m_imul C dX12_copies_105 ?_
    refine m_iload_n C dX12_copies_106 rfl ?_
    refine m_iadd C dX12_copies_107 ?_
    obtain ⟨hb, h⟩ := h
    refine f_iald C dX12_copies_108 (m_arO (a := 0) (len := 176) rfl rfl) (by decide) hb ?_
    obtain ⟨hb, h⟩ := h
    refine f_iast C dX12_copies_109 (m_arO (a := 0) (len := 176) rfl rfl) (by decide) hb ?_
    refine n_mem (fun μ4 eμ4 => ?_)
    have h := h μ4 eμ4
    refine m_aload_n C dX12_copies_110 rfl ?_
    refine f_getA C dX12_copies_111 fl_KilnBenchModel_156 rfl (by decide) (by decide) (by decide) (by decide) ?_
    refine m_bipush C dX12_copies_114 (by omega) ?_
    refine m_iload_n C dX12_copies_116 rfl ?_
    refine m_imul C dX12_copies_117 ?_
    refine m_iload_n C dX12_copies_118 rfl ?_
    refine m_iadd C dX12_copies_119 ?_
    refine m_aload_n C dX12_copies_120 rfl ?_
    refine f_getA C dX12_copies_121 fl_KilnBenchModel_156 rfl (by decide) (by decide) (by decide) (by decide) ?_
    refine m_bipush C dX12_copies_124 (by omega) ?_
    refine m_iload_n C dX12_copies_126 rfl ?_
    refine m_imul C dX12_copies_127 ?_
    refine m_iload_n C dX12_copies_128 rfl ?_
    refine m_iadd C dX12_copies_129 ?_
    obtain ⟨hb, h⟩ := h
    refine f_iald C dX12_copies_130 (m_arO (a := 0) (len := 176) rfl rfl) (by decide) hb ?_
    obtain ⟨hb, h⟩ := h
    refine f_iast C dX12_copies_131 (m_arO (a := 0) (len := 176) rfl rfl) (by decide) hb ?_
    refine n_mem (fun μ5 eμ5 => ?_)
    have h := h μ5 eμ5
    refine n_iinc (fun x6 => [some (vR 34 0), some (vI a1), some (vI a2), some (vI x6)]) C dX12_copies_132 rfl (by decide) (fun _ => rfl) (fun x6 ex6 => ?_)
    have h := h x6 ex6
    refine m_goto (tgt := 38) C dX12_copies_135 (by decide) ?_
    exact h

set_option maxRecDepth 20000 in
theorem VX12_copies_140 {G : m_G} {X : m_X} {d : Nat} {K : m_M → Prop} (C : mC G X YX12_copies (d + 1)) (R : r_v G X K) {μ : m_M} {a1 : Int} {a2 : Int} {l3 : Int}
    (h : ((3 ≤ l3) → (0 ≤ a2 ∧ a2 < 22) ∧ (0 ≤ a1 ∧ a1 < 22) ∧ ∀ μ1 : m_M, μ1 = m_up μ 34 51 a1.toNat (μ 34 51 a2.toNat) → mW G X YX12_copies μ1 185 [some (vR 34 0), some (vI a1), some (vI a2), some (vI 0)] []) ∧ ((¬ 3 ≤ l3) → (0 ≤ w32 ((w32 (3 * a2)) + l3) ∧ w32 ((w32 (3 * a2)) + l3) < 66) ∧ (0 ≤ w32 ((w32 (3 * a1)) + l3) ∧ w32 ((w32 (3 * a1)) + l3) < 66) ∧ ∀ μ3 : m_M, μ3 = m_up μ 34 50 (w32 ((w32 (3 * a1)) + l3)).toNat (μ 34 50 (w32 ((w32 (3 * a2)) + l3)).toNat) → ∀ x4 : Int, x4 = w32 (l3 + 1) → mW G X YX12_copies μ3 140 [some (vR 34 0), some (vI a1), some (vI a2), some (vI x4)] [])) :
    mW G X YX12_copies μ 140 [some (vR 34 0), some (vI a1), some (vI a2), some (vI l3)] [] := by
  refine m_iload_n C dX12_copies_140 rfl ?_
  refine m_iconst C dX12_copies_141 (by unfold in32; omega) ?_
  refine m_icmp_ge (tgt := 171) C dX12_copies_142 (by decide) (fun c => ?_) (fun c => ?_)
  · have h := h.1 c
    refine m_aload_n C dX12_copies_171 rfl ?_
    refine f_getA C dX12_copies_172 fl_KilnBenchModel_165 rfl (by decide) (by decide) (by decide) (by decide) ?_
    refine m_iload_n C dX12_copies_175 rfl ?_
    refine m_aload_n C dX12_copies_176 rfl ?_
    refine f_getA C dX12_copies_177 fl_KilnBenchModel_165 rfl (by decide) (by decide) (by decide) (by decide) ?_
    refine m_iload_n C dX12_copies_180 rfl ?_
    obtain ⟨hb, h⟩ := h
    refine f_iald C dX12_copies_181 (m_arO (a := 0) (len := 22) rfl rfl) (by decide) hb ?_
    obtain ⟨hb, h⟩ := h
    refine f_iast C dX12_copies_182 (m_arO (a := 0) (len := 22) rfl rfl) (by decide) hb ?_
    refine n_mem (fun μ1 eμ1 => ?_)
    have h := h μ1 eμ1
    refine m_iconst C dX12_copies_183 (by unfold in32; omega) ?_
    refine o_istore_n [some (vR 34 0), some (vI a1), some (vI a2), some (vI 0)] C dX12_copies_184 (by decide) rfl ?_
    exact h
  · have h := h.2 c
    refine m_aload_n C dX12_copies_145 rfl ?_
    refine f_getA C dX12_copies_146 fl_KilnBenchModel_162 rfl (by decide) (by decide) (by decide) (by decide) ?_
    refine m_iconst C dX12_copies_149 (by unfold in32; omega) ?_
    refine m_iload_n C dX12_copies_150 rfl ?_
    refine m_imul C dX12_copies_151 ?_
    refine m_iload_n C dX12_copies_152 rfl ?_
    refine m_iadd C dX12_copies_153 ?_
    refine m_aload_n C dX12_copies_154 rfl ?_
    refine f_getA C dX12_copies_155 fl_KilnBenchModel_162 rfl (by decide) (by decide) (by decide) (by decide) ?_
    refine m_iconst C dX12_copies_158 (by unfold in32; omega) ?_
    refine m_iload_n C dX12_copies_159 rfl ?_
    refine m_imul C dX12_copies_160 ?_
    refine m_iload_n C dX12_copies_161 rfl ?_
    refine m_iadd C dX12_copies_162 ?_
    obtain ⟨hb, h⟩ := h
    refine f_iald C dX12_copies_163 (m_arO (a := 0) (len := 66) rfl rfl) (by decide) hb ?_
    obtain ⟨hb, h⟩ := h
    refine f_iast C dX12_copies_164 (m_arO (a := 0) (len := 66) rfl rfl) (by decide) hb ?_
    refine n_mem (fun μ3 eμ3 => ?_)
    have h := h μ3 eμ3
    refine n_iinc (fun x4 => [some (vR 34 0), some (vI a1), some (vI a2), some (vI x4)]) C dX12_copies_165 rfl (by decide) (fun _ => rfl) (fun x4 ex4 => ?_)
    have h := h x4 ex4
    refine m_goto (tgt := 140) C dX12_copies_168 (by decide) ?_
    exact h

set_option maxRecDepth 20000 in
theorem VX12_copies_185 {G : m_G} {X : m_X} {d : Nat} {K : m_M → Prop} (C : mC G X YX12_copies (d + 1)) (R : r_v G X K) {μ : m_M} {a1 : Int} {a2 : Int} {l3 : Int}
    (h : (0 ≤ a2 ∧ a2 < 22) ∧ ((w32 (4 * (μ 34 51 a2.toNat)) ≤ l3) → K μ) ∧ ((¬ w32 (4 * (μ 34 51 a2.toNat)) ≤ l3) → (0 ≤ w32 ((w32 (160 * a2)) + l3) ∧ w32 ((w32 (160 * a2)) + l3) < 3520) ∧ (0 ≤ w32 ((w32 (160 * a1)) + l3) ∧ w32 ((w32 (160 * a1)) + l3) < 3520) ∧ ∀ μ1 : m_M, μ1 = m_up μ 34 52 (w32 ((w32 (160 * a1)) + l3)).toNat (μ 34 52 (w32 ((w32 (160 * a2)) + l3)).toNat) → ∀ x2 : Int, x2 = w32 (l3 + 1) → mW G X YX12_copies μ1 185 [some (vR 34 0), some (vI a1), some (vI a2), some (vI x2)] [])) :
    mW G X YX12_copies μ 185 [some (vR 34 0), some (vI a1), some (vI a2), some (vI l3)] [] := by
  refine m_iload_n C dX12_copies_185 rfl ?_
  refine m_iconst C dX12_copies_186 (by unfold in32; omega) ?_
  refine m_aload_n C dX12_copies_187 rfl ?_
  refine f_getA C dX12_copies_188 fl_KilnBenchModel_165 rfl (by decide) (by decide) (by decide) (by decide) ?_
  refine m_iload_n C dX12_copies_191 rfl ?_
  obtain ⟨hb, h⟩ := h
  refine f_iald C dX12_copies_192 (m_arO (a := 0) (len := 22) rfl rfl) (by decide) hb ?_
  refine m_imul C dX12_copies_193 ?_
  refine m_icmp_ge (tgt := 227) C dX12_copies_194 (by decide) (fun c => ?_) (fun c => ?_)
  · have h := h.1 c
    exact f_vret C R rfl dX12_copies_227 h
  · have h := h.2 c
    refine m_aload_n C dX12_copies_197 rfl ?_
    refine f_getA C dX12_copies_198 fl_KilnBenchModel_168 rfl (by decide) (by decide) (by decide) (by decide) ?_
    refine m_sipush C dX12_copies_201 (by omega) ?_
    refine m_iload_n C dX12_copies_204 rfl ?_
    refine m_imul C dX12_copies_205 ?_
    refine m_iload_n C dX12_copies_206 rfl ?_
    refine m_iadd C dX12_copies_207 ?_
    refine m_aload_n C dX12_copies_208 rfl ?_
    refine f_getA C dX12_copies_209 fl_KilnBenchModel_168 rfl (by decide) (by decide) (by decide) (by decide) ?_
    refine m_sipush C dX12_copies_212 (by omega) ?_
    refine m_iload_n C dX12_copies_215 rfl ?_
    refine m_imul C dX12_copies_216 ?_
    refine m_iload_n C dX12_copies_217 rfl ?_
    refine m_iadd C dX12_copies_218 ?_
    obtain ⟨hb, h⟩ := h
    refine f_iald C dX12_copies_219 (m_arO (a := 0) (len := 3520) rfl rfl) (by decide) hb ?_
    obtain ⟨hb, h⟩ := h
    refine f_iast C dX12_copies_220 (m_arO (a := 0) (len := 3520) rfl rfl) (by decide) hb ?_
    refine n_mem (fun μ1 eμ1 => ?_)
    have h := h μ1 eμ1
    refine n_iinc (fun x2 => [some (vR 34 0), some (vI a1), some (vI a2), some (vI x2)]) C dX12_copies_221 rfl (by decide) (fun _ => rfl) (fun x2 ex2 => ?_)
    have h := h x2 ex2
    refine m_goto (tgt := 185) C dX12_copies_224 (by decide) ?_
    exact h

set_option maxRecDepth 20000 in
theorem VX12_begin_0 {G : m_G} {X : m_X} {d : Nat} {K : m_M → Prop} (C : mC G X YX12_begin (d + 1)) (R : r_v G X K) {μ : m_M}
    (h : ∀ μ1 : m_M, μ1 = m_up μ 34 43 0 0 → (0 ≤ μ1 34 0 13 ∧ μ1 34 0 13 < 2) ∧ ∀ μ2 : m_M, μ2 = m_up μ1 34 44 0 (μ1 34 20 (μ1 34 0 13).toNat) → ∀ μ3 : m_M, μ3 = m_up μ2 34 49 0 0 → mW G X YX12_begin μ3 31 [some (vR 34 0), some (vI 0)] []) :
    mW G X YX12_begin μ 0 [some (vR 34 0), none] [] := by
  refine m_aload_n C dX12_begin_0 rfl ?_
  refine f_getA C dX12_begin_1 fl_KilnBenchModel_141 rfl (by decide) (by decide) (by decide) (by decide) ?_
  refine m_iconst C dX12_begin_4 (by unfold in32; omega) ?_
  refine m_iconst C dX12_begin_5 (by unfold in32; omega) ?_
  refine f_iast C dX12_begin_6 (m_arO (a := 0) (len := 22) rfl rfl) (by decide) (by decide) ?_
  refine n_mem (fun μ1 eμ1 => ?_)
  have h := h μ1 eμ1
  refine m_aload_n C dX12_begin_7 rfl ?_
  refine f_getA C dX12_begin_8 fl_KilnBenchModel_144 rfl (by decide) (by decide) (by decide) (by decide) ?_
  refine m_iconst C dX12_begin_11 (by unfold in32; omega) ?_
  refine m_aload_n C dX12_begin_12 rfl ?_
  refine f_getA C dX12_begin_13 fl_KilnBenchModel_69 rfl (by decide) (by decide) (by decide) (by decide) ?_
  refine m_aload_n C dX12_begin_16 rfl ?_
  refine f_getI C dX12_begin_17 fl_KilnBenchModel_51 rfl (by decide) (by decide) ?_
  obtain ⟨hb, h⟩ := h
  refine f_iald C dX12_begin_20 (m_arO (a := 0) (len := 2) rfl rfl) (by decide) hb ?_
  refine f_iast C dX12_begin_21 (m_arO (a := 0) (len := 22) rfl rfl) (by decide) (by decide) ?_
  refine n_mem (fun μ2 eμ2 => ?_)
  have h := h μ2 eμ2
  refine m_aload_n C dX12_begin_22 rfl ?_
  refine f_getA C dX12_begin_23 fl_KilnBenchModel_159 rfl (by decide) (by decide) (by decide) (by decide) ?_
  refine m_iconst C dX12_begin_26 (by unfold in32; omega) ?_
  refine m_iconst C dX12_begin_27 (by unfold in32; omega) ?_
  refine f_iast C dX12_begin_28 (m_arO (a := 0) (len := 22) rfl rfl) (by decide) (by decide) ?_
  refine n_mem (fun μ3 eμ3 => ?_)
  have h := h μ3 eμ3
  refine m_iconst C dX12_begin_29 (by unfold in32; omega) ?_
  refine o_istore_n [some (vR 34 0), some (vI 0)] C dX12_begin_30 (by decide) rfl ?_
  exact h

set_option maxRecDepth 20000 in
theorem VX12_begin_31 {G : m_G} {X : m_X} {d : Nat} {K : m_M → Prop} (C : mC G X YX12_begin (d + 1)) (R : r_v G X K) {μ : m_M} {l1 : Int}
    (h : ((8 ≤ l1) → mW G X YX12_begin μ 73 [some (vR 34 0), some (vI 0)] []) ∧ ((¬ 8 ≤ l1) → (0 ≤ l1 ∧ l1 < 176) ∧ ∀ μ2 : m_M, μ2 = m_up μ 34 45 l1.toNat (-1) → (0 ≤ l1 ∧ l1 < 176) ∧ ∀ μ3 : m_M, μ3 = m_up μ2 34 46 l1.toNat (-1) → (0 ≤ l1 ∧ l1 < 176) ∧ ∀ μ4 : m_M, μ4 = m_up μ3 34 47 l1.toNat (-1) → (0 ≤ l1 ∧ l1 < 176) ∧ ∀ μ5 : m_M, μ5 = m_up μ4 34 48 l1.toNat 0 → ∀ x6 : Int, x6 = w32 (l1 + 1) → mW G X YX12_begin μ5 31 [some (vR 34 0), some (vI x6)] [])) :
    mW G X YX12_begin μ 31 [some (vR 34 0), some (vI l1)] [] := by
  refine m_iload_n C dX12_begin_31 rfl ?_
  refine m_bipush C dX12_begin_32 (by omega) ?_
  refine m_icmp_ge (tgt := 71) C dX12_begin_34 (by decide) (fun c => ?_) (fun c => ?_)
  · have h := h.1 c
    refine m_iconst C dX12_begin_71 (by unfold in32; omega) ?_
    refine o_istore_n [some (vR 34 0), some (vI 0)] C dX12_begin_72 (by decide) rfl ?_
    exact h
  · have h := h.2 c
    refine m_aload_n C dX12_begin_37 rfl ?_
    refine f_getA C dX12_begin_38 fl_KilnBenchModel_147 rfl (by decide) (by decide) (by decide) (by decide) ?_
    refine m_iload_n C dX12_begin_41 rfl ?_
    refine m_iconst C dX12_begin_42 (by unfold in32; omega) ?_
    obtain ⟨hb, h⟩ := h
    refine f_iast C dX12_begin_43 (m_arO (a := 0) (len := 176) rfl rfl) (by decide) hb ?_
    refine n_mem (fun μ2 eμ2 => ?_)
    have h := h μ2 eμ2
    refine m_aload_n C dX12_begin_44 rfl ?_
    refine f_getA C dX12_begin_45 fl_KilnBenchModel_150 rfl (by decide) (by decide) (by decide) (by decide) ?_
    refine m_iload_n C dX12_begin_48 rfl ?_
    refine m_iconst C dX12_begin_49 (by unfold in32; omega) ?_
    obtain ⟨hb, h⟩ := h
    refine f_iast C dX12_begin_50 (m_arO (a := 0) (len := 176) rfl rfl) (by decide) hb ?_
    refine n_mem (fun μ3 eμ3 => ?_)
    have h := h μ3 eμ3
    refine m_aload_n C dX12_begin_51 rfl ?_
    refine f_getA C dX12_begin_52 fl_KilnBenchModel_153 rfl (by decide) (by decide) (by decide) (by decide) ?_
    refine m_iload_n C dX12_begin_55 rfl ?_
    refine m_iconst C dX12_begin_56 (by unfold in32; omega) ?_
    obtain ⟨hb, h⟩ := h
    refine f_iast C dX12_begin_57 (m_arO (a := 0) (len := 176) rfl rfl) (by decide) hb ?_
    refine n_mem (fun μ4 eμ4 => ?_)
    have h := h μ4 eμ4
    refine m_aload_n C dX12_begin_58 rfl ?_
    refine f_getA C dX12_begin_59 fl_KilnBenchModel_156 rfl (by decide) (by decide) (by decide) (by decide) ?_
    refine m_iload_n C dX12_begin_62 rfl ?_
    refine m_iconst C dX12_begin_63 (by unfold in32; omega) ?_
    obtain ⟨hb, h⟩ := h
    refine f_iast C dX12_begin_64 (m_arO (a := 0) (len := 176) rfl rfl) (by decide) hb ?_
    refine n_mem (fun μ5 eμ5 => ?_)
    have h := h μ5 eμ5
    refine n_iinc (fun x6 => [some (vR 34 0), some (vI x6)]) C dX12_begin_65 rfl (by decide) (fun _ => rfl) (fun x6 ex6 => ?_)
    have h := h x6 ex6
    refine m_goto (tgt := 31) C dX12_begin_68 (by decide) ?_
    exact h

set_option maxRecDepth 20000 in
theorem VX12_begin_73 {G : m_G} {X : m_X} {d : Nat} {K : m_M → Prop} (C : mC G X YX12_begin (d + 1)) (R : r_v G X K) {μ : m_M} {l1 : Int}
    (h : ((3 ≤ l1) → ∀ μ1 : m_M, μ1 = m_up μ 34 51 0 0 → ∀ μ2 : m_M, μ2 = m_up μ1 34 0 53 0 → ∀ μ3 : m_M, μ3 = m_up μ2 34 0 60 0 → K μ3) ∧ ((¬ 3 ≤ l1) → (0 ≤ l1 ∧ l1 < 66) ∧ ∀ μ4 : m_M, μ4 = m_up μ 34 50 l1.toNat (-1) → ∀ x5 : Int, x5 = w32 (l1 + 1) → mW G X YX12_begin μ4 73 [some (vR 34 0), some (vI x5)] [])) :
    mW G X YX12_begin μ 73 [some (vR 34 0), some (vI l1)] [] := by
  refine m_iload_n C dX12_begin_73 rfl ?_
  refine m_iconst C dX12_begin_74 (by unfold in32; omega) ?_
  refine m_icmp_ge (tgt := 91) C dX12_begin_75 (by decide) (fun c => ?_) (fun c => ?_)
  · have h := h.1 c
    refine m_aload_n C dX12_begin_91 rfl ?_
    refine f_getA C dX12_begin_92 fl_KilnBenchModel_165 rfl (by decide) (by decide) (by decide) (by decide) ?_
    refine m_iconst C dX12_begin_95 (by unfold in32; omega) ?_
    refine m_iconst C dX12_begin_96 (by unfold in32; omega) ?_
    refine f_iast C dX12_begin_97 (m_arO (a := 0) (len := 22) rfl rfl) (by decide) (by decide) ?_
    refine n_mem (fun μ1 eμ1 => ?_)
    have h := h μ1 eμ1
    refine m_aload_n C dX12_begin_98 rfl ?_
    refine m_iconst C dX12_begin_99 (by unfold in32; omega) ?_
    refine f_putI C dX12_begin_100 fl_KilnBenchModel_174 rfl (by decide) (by decide) (by decide) ?_
    refine n_mem (fun μ2 eμ2 => ?_)
    have h := h μ2 eμ2
    refine m_aload_n C dX12_begin_103 rfl ?_
    refine m_iconst C dX12_begin_104 (by unfold in32; omega) ?_
    refine f_putI C dX12_begin_105 fl_KilnBenchModel_195 rfl (by decide) (by decide) (by decide) ?_
    refine n_mem (fun μ3 eμ3 => ?_)
    have h := h μ3 eμ3
    exact f_vret C R rfl dX12_begin_108 h
  · have h := h.2 c
    refine m_aload_n C dX12_begin_78 rfl ?_
    refine f_getA C dX12_begin_79 fl_KilnBenchModel_162 rfl (by decide) (by decide) (by decide) (by decide) ?_
    refine m_iload_n C dX12_begin_82 rfl ?_
    refine m_iconst C dX12_begin_83 (by unfold in32; omega) ?_
    obtain ⟨hb, h⟩ := h
    refine f_iast C dX12_begin_84 (m_arO (a := 0) (len := 66) rfl rfl) (by decide) hb ?_
    refine n_mem (fun μ4 eμ4 => ?_)
    have h := h μ4 eμ4
    refine n_iinc (fun x5 => [some (vR 34 0), some (vI x5)]) C dX12_begin_85 rfl (by decide) (fun _ => rfl) (fun x5 ex5 => ?_)
    have h := h x5 ex5
    refine m_goto (tgt := 73) C dX12_begin_88 (by decide) ?_
    exact h

set_option maxRecDepth 20000 in
theorem VX12_slot_0 {G : m_G} {X : m_X} {d : Nat} {K : Int → m_M → Prop} (C : mC G X YX12_slot (d + 1)) (R : r_i G X K) {μ : m_M} {a1 : Int}
    (h : K (w32 (2 + ((w32 ((μ 34 0 52) + a1)).tmod 20))) μ) :
    mW G X YX12_slot μ 0 [some (vR 34 0), some (vI a1)] [] := by
  refine m_iconst C dX12_slot_0 (by unfold in32; omega) ?_
  refine m_aload_n C dX12_slot_1 rfl ?_
  refine f_getI C dX12_slot_2 fl_KilnBenchModel_171 rfl (by decide) (by decide) ?_
  refine m_iload_n C dX12_slot_5 rfl ?_
  refine m_iadd C dX12_slot_6 ?_
  refine m_bipush C dX12_slot_7 (by omega) ?_
  refine m_irem C dX12_slot_9 (by decide) ?_
  refine m_iadd C dX12_slot_10 ?_
  exact f_iret C R rfl dX12_slot_11 h

set_option maxRecDepth 20000 in
theorem VX12_keeps_0 {G : m_G} {X : m_X} {d : Nat} {K : m_M → Prop} (C : mC G X YX12_keeps (d + 1)) (R : r_v G X K) {μ : m_M}
    (h : ((¬ (μ 34 0 53) = 20) → c_i G d YX12_slot [vR 34 0, vI (μ 34 0 53)] μ (fun r2 μ1 => c_v G d YX12_copies [vR 34 0, vI r2, vI 0] μ1 (fun μ3 => ∀ μ4 : m_M, μ4 = m_up μ3 34 0 53 (w32 ((μ3 34 0 53) + 1)) → K μ4))) ∧ ((μ 34 0 53 = 20) → ∀ μ5 : m_M, μ5 = m_up μ 34 0 52 ((w32 ((μ 34 0 52) + 1)).tmod 20) → ∀ μ6 : m_M, μ6 = m_up μ5 34 0 53 (w32 ((μ5 34 0 53) - 1)) → c_i G d YX12_slot [vR 34 0, vI (μ6 34 0 53)] μ6 (fun r8 μ7 => c_v G d YX12_copies [vR 34 0, vI r8, vI 0] μ7 (fun μ9 => ∀ μ10 : m_M, μ10 = m_up μ9 34 0 53 (w32 ((μ9 34 0 53) + 1)) → K μ10)))) :
    mW G X YX12_keeps μ 0 [some (vR 34 0)] [] := by
  refine m_aload_n C dX12_keeps_0 rfl ?_
  refine f_getI C dX12_keeps_1 fl_KilnBenchModel_174 rfl (by decide) (by decide) ?_
  refine m_bipush C dX12_keeps_4 (by omega) ?_
  refine m_icmp_ne (tgt := 32) C dX12_keeps_6 (by decide) (fun c => ?_) (fun c => ?_)
  · have h := h.1 c
    refine m_aload_n C dX12_keeps_32 rfl ?_
    refine m_aload_n C dX12_keeps_33 rfl ?_
    refine m_aload_n C dX12_keeps_34 rfl ?_
    refine f_getI C dX12_keeps_35 fl_KilnBenchModel_174 rfl (by decide) (by decide) ?_
    refine f_callVi (As := [vI (μ 34 0 53)]) (st := [vR 34 0]) C dX12_keeps_38 ml_KilnBenchModel_383 rfl (by decide) rfl rfl rfl (Nat.le_of_ble_eq_true rfl) h (fun r2 μ1 h => ?_)
    refine m_iconst C dX12_keeps_41 (by unfold in32; omega) ?_
    refine f_callVv (As := [vI r2, vI 0]) (st := []) C dX12_keeps_42 ml_KilnBenchModel_386 rfl (by decide) rfl rfl rfl (Nat.le_of_ble_eq_true rfl) h (fun μ3 h => ?_)
    refine m_aload_n C dX12_keeps_45 rfl ?_
    refine m_dup C dX12_keeps_46 rfl ?_
    refine f_getI C dX12_keeps_47 fl_KilnBenchModel_174 rfl (by decide) (by decide) ?_
    refine m_iconst C dX12_keeps_50 (by unfold in32; omega) ?_
    refine m_iadd C dX12_keeps_51 ?_
    refine f_putI C dX12_keeps_52 fl_KilnBenchModel_174 rfl (by decide) (by decide) (by decide) ?_
    refine n_mem (fun μ4 eμ4 => ?_)
    have h := h μ4 eμ4
    exact f_vret C R rfl dX12_keeps_55 h
  · have h := h.2 c
    refine m_aload_n C dX12_keeps_9 rfl ?_
    refine m_aload_n C dX12_keeps_10 rfl ?_
    refine f_getI C dX12_keeps_11 fl_KilnBenchModel_171 rfl (by decide) (by decide) ?_
    refine m_iconst C dX12_keeps_14 (by unfold in32; omega) ?_
    refine m_iadd C dX12_keeps_15 ?_
    refine m_bipush C dX12_keeps_16 (by omega) ?_
    refine m_irem C dX12_keeps_18 (by decide) ?_
    refine f_putI C dX12_keeps_19 fl_KilnBenchModel_171 rfl (by decide) (by decide) (by decide) ?_
    refine n_mem (fun μ5 eμ5 => ?_)
    have h := h μ5 eμ5
    refine m_aload_n C dX12_keeps_22 rfl ?_
    refine m_dup C dX12_keeps_23 rfl ?_
    refine f_getI C dX12_keeps_24 fl_KilnBenchModel_174 rfl (by decide) (by decide) ?_
    refine m_iconst C dX12_keeps_27 (by unfold in32; omega) ?_
    refine m_isub C dX12_keeps_28 ?_
    refine f_putI C dX12_keeps_29 fl_KilnBenchModel_174 rfl (by decide) (by decide) (by decide) ?_
    refine n_mem (fun μ6 eμ6 => ?_)
    have h := h μ6 eμ6
    refine m_aload_n C dX12_keeps_32 rfl ?_
    refine m_aload_n C dX12_keeps_33 rfl ?_
    refine m_aload_n C dX12_keeps_34 rfl ?_
    refine f_getI C dX12_keeps_35 fl_KilnBenchModel_174 rfl (by decide) (by decide) ?_
    refine f_callVi (As := [vI (μ6 34 0 53)]) (st := [vR 34 0]) C dX12_keeps_38 ml_KilnBenchModel_383 rfl (by decide) rfl rfl rfl (Nat.le_of_ble_eq_true rfl) h (fun r8 μ7 h => ?_)
    refine m_iconst C dX12_keeps_41 (by unfold in32; omega) ?_
    refine f_callVv (As := [vI r8, vI 0]) (st := []) C dX12_keeps_42 ml_KilnBenchModel_386 rfl (by decide) rfl rfl rfl (Nat.le_of_ble_eq_true rfl) h (fun μ9 h => ?_)
    refine m_aload_n C dX12_keeps_45 rfl ?_
    refine m_dup C dX12_keeps_46 rfl ?_
    refine f_getI C dX12_keeps_47 fl_KilnBenchModel_174 rfl (by decide) (by decide) ?_
    refine m_iconst C dX12_keeps_50 (by unfold in32; omega) ?_
    refine m_iadd C dX12_keeps_51 ?_
    refine f_putI C dX12_keeps_52 fl_KilnBenchModel_174 rfl (by decide) (by decide) (by decide) ?_
    refine n_mem (fun μ10 eμ10 => ?_)
    have h := h μ10 eμ10
    exact f_vret C R rfl dX12_keeps_55 h

set_option maxRecDepth 20000 in
theorem VX12_undo_0 {G : m_G} {X : m_X} {d : Nat} {K : Int → m_M → Prop} (C : mC G X YX12_undo (d + 1)) (R : r_i G X K) {μ : m_M}
    (h : ((¬ (μ 34 0 53) = 0) → ∀ μ1 : m_M, μ1 = m_up μ 34 0 53 (w32 ((μ 34 0 53) - 1)) → c_i G d YX12_slot [vR 34 0, vI (μ1 34 0 53)] μ1 (fun r3 μ2 => c_v G d YX12_copies [vR 34 0, vI 0, vI r3] μ2 (fun μ4 => K 1 μ4))) ∧ ((μ 34 0 53 = 0) → c_i G d YX12_refuses [vR 34 0, vI 4] μ (fun r6 μ5 => ((r6 < 0) → K 0 μ5) ∧ ((¬ r6 < 0) → K 1 μ5)))) :
    mW G X YX12_undo μ 0 [some (vR 34 0)] [] := by
  refine m_aload_n C dX12_undo_0 rfl ?_
  refine f_getI C dX12_undo_1 fl_KilnBenchModel_174 rfl (by decide) (by decide) ?_
  refine m_if_ne (tgt := 21) C dX12_undo_4 (by decide) (fun c => ?_) (fun c => ?_)
  · have h := h.1 c
    refine m_aload_n C dX12_undo_21 rfl ?_
    refine m_dup C dX12_undo_22 rfl ?_
    refine f_getI C dX12_undo_23 fl_KilnBenchModel_174 rfl (by decide) (by decide) ?_
    refine m_iconst C dX12_undo_26 (by unfold in32; omega) ?_
    refine m_isub C dX12_undo_27 ?_
    refine f_putI C dX12_undo_28 fl_KilnBenchModel_174 rfl (by decide) (by decide) (by decide) ?_
    refine n_mem (fun μ1 eμ1 => ?_)
    have h := h μ1 eμ1
    refine m_aload_n C dX12_undo_31 rfl ?_
    refine m_iconst C dX12_undo_32 (by unfold in32; omega) ?_
    refine m_aload_n C dX12_undo_33 rfl ?_
    refine m_aload_n C dX12_undo_34 rfl ?_
    refine f_getI C dX12_undo_35 fl_KilnBenchModel_174 rfl (by decide) (by decide) ?_
    refine f_callVi (As := [vI (μ1 34 0 53)]) (st := [vI 0, vR 34 0]) C dX12_undo_38 ml_KilnBenchModel_383 rfl (by decide) rfl rfl rfl (Nat.le_of_ble_eq_true rfl) h (fun r3 μ2 h => ?_)
    refine f_callVv (As := [vI 0, vI r3]) (st := []) C dX12_undo_41 ml_KilnBenchModel_386 rfl (by decide) rfl rfl rfl (Nat.le_of_ble_eq_true rfl) h (fun μ4 h => ?_)
    refine m_iconst C dX12_undo_44 (by unfold in32; omega) ?_
    exact f_zret C R rfl dX12_undo_45 (by decide) h
  · have h := h.2 c
    refine m_aload_n C dX12_undo_7 rfl ?_
    refine m_iconst C dX12_undo_8 (by unfold in32; omega) ?_
    refine f_callVi (As := [vI 4]) (st := []) C dX12_undo_9 ml_KilnBenchModel_216 rfl (by decide) rfl rfl rfl (Nat.le_of_ble_eq_true rfl) h (fun r6 μ5 h => ?_)
    refine m_if_lt (tgt := 19) C dX12_undo_12 (by decide) (fun c => ?_) (fun c => ?_)
    · have h := h.1 c
      refine m_iconst C dX12_undo_19 (by unfold in32; omega) ?_
      exact f_zret C R rfl dX12_undo_20 (by decide) h
    · have h := h.2 c
      refine m_iconst C dX12_undo_15 (by unfold in32; omega) ?_
      refine m_goto (tgt := 20) C dX12_undo_16 (by decide) ?_
      exact f_zret C R rfl dX12_undo_20 (by decide) h

set_option maxRecDepth 20000 in
theorem VX12_within_0 {G : m_G} {X : m_X} {d : Nat} {K : Int → m_M → Prop} (C : mC G X YX12_within (d + 1)) (R : r_l G X K) {μ : m_M} {a1 : Int}
    (h : ((l_cmp a1 1000000 ≤ 0) → ((0 ≤ l_cmp a1 (-1000000)) → K a1 μ) ∧ ((¬ 0 ≤ l_cmp a1 (-1000000)) → K (-1000000) μ)) ∧ ((¬ l_cmp a1 1000000 ≤ 0) → K 1000000 μ)) :
    mW G X YX12_within μ 0 [some (vJ a1), none] [] := by
  refine m_lload_n C dX12_within_0 rfl ?_
  refine m_ldc2 (x := 1000000) C dX12_within_1 lc_KilnBenchModel_389 rfl ?_
  refine m_lcmp C dX12_within_4 ?_
  refine m_if_le (tgt := 14) C dX12_within_5 (by decide) (fun c => ?_) (fun c => ?_)
  · have h := h.1 c
    refine m_lload_n C dX12_within_14 rfl ?_
    refine m_ldc2 (x := (-1000000)) C dX12_within_15 lc_KilnBenchModel_391 rfl ?_
    refine m_lcmp C dX12_within_18 ?_
    refine m_if_ge (tgt := 28) C dX12_within_19 (by decide) (fun c => ?_) (fun c => ?_)
    · have h := h.1 c
      refine m_lload_n C dX12_within_28 rfl ?_
      exact f_lret C R rfl dX12_within_29 h
    · have h := h.2 c
      refine m_ldc2 (x := (-1000000)) C dX12_within_22 lc_KilnBenchModel_391 rfl ?_
      refine m_goto (tgt := 29) C dX12_within_25 (by decide) ?_
      exact f_lret C R rfl dX12_within_29 h
  · have h := h.2 c
    refine m_ldc2 (x := 1000000) C dX12_within_8 lc_KilnBenchModel_389 rfl ?_
    refine m_goto (tgt := 29) C dX12_within_11 (by decide) ?_
    exact f_lret C R rfl dX12_within_29 h

set_option maxRecDepth 20000 in
theorem VX12_floor_0 {G : m_G} {X : m_X} {d : Nat} {K : Int → m_M → Prop} (C : mC G X YX12_floor (d + 1)) (R : r_l G X K) {μ : m_M} {a1 : Int} {a2 : Int}
    (h : ((¬ (l_cmp a2 0) = 0) → a2 ≠ 0 ∧ ∀ x1 : Int, x1 = w64 (a1.tdiv a2) → a2 ≠ 0 ∧ ((l_cmp (a1.tmod a2) 0 = 0) → K x1 μ) ∧ ((¬ l_cmp (a1.tmod a2) 0 = 0) → ((0 ≤ l_cmp a1 0) → ((0 ≤ l_cmp a2 0) → K x1 μ) ∧ ((¬ 0 ≤ l_cmp a2 0) → K (w64 (x1 - 1)) μ)) ∧ ((¬ 0 ≤ l_cmp a1 0) → ((0 ≤ l_cmp a2 0) → K (w64 (x1 - 1)) μ) ∧ ((¬ 0 ≤ l_cmp a2 0) → K x1 μ)))) ∧ ((l_cmp a2 0 = 0) → K 0 μ)) :
    mW G X YX12_floor μ 0 [some (vJ a1), none, some (vJ a2), none, none, none] [] := by
  refine m_lload_n C dX12_floor_0 rfl ?_
  refine m_lconst (x := 0) C dX12_floor_1 rfl ?_
  refine m_lcmp C dX12_floor_2 ?_
  refine m_if_ne (tgt := 8) C dX12_floor_3 (by decide) (fun c => ?_) (fun c => ?_)
  · have h := h.1 c
    refine m_lload_n C dX12_floor_8 rfl ?_
    refine m_lload_n C dX12_floor_9 rfl ?_
    obtain ⟨hne, h⟩ := h
    refine m_ldiv C dX12_floor_10 hne ?_
    refine n_lstore (fun x1 => [some (vJ a1), none, some (vJ a2), none, some (vJ x1), none]) C dX12_floor_11 (by decide) (fun _ => rfl) (fun x1 ex1 => ?_)
    have h := h x1 ex1
    refine m_lload_n C dX12_floor_13 rfl ?_
    refine m_lload_n C dX12_floor_14 rfl ?_
    obtain ⟨hne, h⟩ := h
    refine m_lrem C dX12_floor_15 hne ?_
    refine m_lconst (x := 0) C dX12_floor_16 rfl ?_
    refine m_lcmp C dX12_floor_17 ?_
    refine m_if_eq (tgt := 53) C dX12_floor_18 (by decide) (fun c => ?_) (fun c => ?_)
    · have h := h.1 c
      refine m_lload C dX12_floor_53 rfl ?_
      exact f_lret C R rfl dX12_floor_55 h
    · have h := h.2 c
      refine m_lload_n C dX12_floor_21 rfl ?_
      refine m_lconst (x := 0) C dX12_floor_22 rfl ?_
      refine m_lcmp C dX12_floor_23 ?_
      refine m_if_ge (tgt := 31) C dX12_floor_24 (by decide) (fun c => ?_) (fun c => ?_)
      · have h := h.1 c
        refine m_iconst C dX12_floor_31 (by unfold in32; omega) ?_
        refine m_lload_n C dX12_floor_32 rfl ?_
        refine m_lconst (x := 0) C dX12_floor_33 rfl ?_
        refine m_lcmp C dX12_floor_34 ?_
        refine m_if_ge (tgt := 42) C dX12_floor_35 (by decide) (fun c => ?_) (fun c => ?_)
        · have h := h.1 c
          refine m_iconst C dX12_floor_42 (by unfold in32; omega) ?_
          refine m_icmp_eq (tgt := 53) C dX12_floor_43 (by decide) (fun c => ?_) (fun c => absurd c (by decide))
          refine m_lload C dX12_floor_53 rfl ?_
          exact f_lret C R rfl dX12_floor_55 h
        · have h := h.2 c
          refine m_iconst C dX12_floor_38 (by unfold in32; omega) ?_
          refine m_goto (tgt := 43) C dX12_floor_39 (by decide) ?_
          refine m_icmp_eq (tgt := 53) C dX12_floor_43 (by decide) (fun c => absurd c (by decide)) (fun c => ?_)
          refine m_lload C dX12_floor_46 rfl ?_
          refine m_lconst (x := 1) C dX12_floor_48 rfl ?_
          refine m_lsub C dX12_floor_49 ?_
          refine m_goto (tgt := 55) C dX12_floor_50 (by decide) ?_
          exact f_lret C R rfl dX12_floor_55 h
      · have h := h.2 c
        refine m_iconst C dX12_floor_27 (by unfold in32; omega) ?_
        refine m_goto (tgt := 32) C dX12_floor_28 (by decide) ?_
        refine m_lload_n C dX12_floor_32 rfl ?_
        refine m_lconst (x := 0) C dX12_floor_33 rfl ?_
        refine m_lcmp C dX12_floor_34 ?_
        refine m_if_ge (tgt := 42) C dX12_floor_35 (by decide) (fun c => ?_) (fun c => ?_)
        · have h := h.1 c
          refine m_iconst C dX12_floor_42 (by unfold in32; omega) ?_
          refine m_icmp_eq (tgt := 53) C dX12_floor_43 (by decide) (fun c => absurd c (by decide)) (fun c => ?_)
          refine m_lload C dX12_floor_46 rfl ?_
          refine m_lconst (x := 1) C dX12_floor_48 rfl ?_
          refine m_lsub C dX12_floor_49 ?_
          refine m_goto (tgt := 55) C dX12_floor_50 (by decide) ?_
          exact f_lret C R rfl dX12_floor_55 h
        · have h := h.2 c
          refine m_iconst C dX12_floor_38 (by unfold in32; omega) ?_
          refine m_goto (tgt := 43) C dX12_floor_39 (by decide) ?_
          refine m_icmp_eq (tgt := 53) C dX12_floor_43 (by decide) (fun c => ?_) (fun c => absurd c (by decide))
          refine m_lload C dX12_floor_53 rfl ?_
          exact f_lret C R rfl dX12_floor_55 h
  · have h := h.2 c
    refine m_lconst (x := 0) C dX12_floor_6 rfl ?_
    exact f_lret C R rfl dX12_floor_7 h

set_option maxRecDepth 20000 in
theorem VX12_two_0 {G : m_G} {X : m_X} {d : Nat} {K : Int → m_M → Prop} (C : mC G X YX12_two (d + 1)) (R : r_l G X K) {μ : m_M} {a1 : Int} {a2 : Int} {a3 : Int}
    (h : ((a1 = 31) → c_l G d YX12_within [vJ (w64 (a2 + a3))] μ (fun r2 μ1 => K r2 μ1)) ∧ ((a1 = 32) → c_l G d YX12_within [vJ (w64 (a2 - a3))] μ (fun r4 μ3 => K r4 μ3)) ∧ ((a1 = 33) → c_l G d YX12_within [vJ (w64 (a2 * a3))] μ (fun r6 μ5 => K r6 μ5)) ∧ ((a1 = 34) → c_l G d YX12_floor [vJ a2, vJ a3] μ (fun r8 μ7 => c_l G d YX12_within [vJ r8] μ7 (fun r10 μ9 => K r10 μ9))) ∧ ((a1 = 35) → ((¬ (l_cmp a3 0) = 0) → c_l G d YX12_floor [vJ a2, vJ a3] μ (fun r12 μ11 => c_l G d YX12_within [vJ (w64 (a2 - (w64 (a3 * r12))))] μ11 (fun r14 μ13 => K r14 μ13))) ∧ ((l_cmp a3 0 = 0) → K 0 μ)) ∧ ((a1 = 36) → ((0 ≤ l_cmp a2 a3) → K a3 μ) ∧ ((¬ 0 ≤ l_cmp a2 a3) → K a2 μ)) ∧ ((a1 = 37) → ((l_cmp a2 a3 ≤ 0) → K a3 μ) ∧ ((¬ l_cmp a2 a3 ≤ 0) → K a2 μ)) ∧ ((a1 = 38) → ((0 ≤ l_cmp a2 a3) → K 0 μ) ∧ ((¬ 0 ≤ l_cmp a2 a3) → K 1 μ)) ∧ ((a1 = 39) → ((l_cmp a2 a3 ≤ 0) → K 0 μ) ∧ ((¬ l_cmp a2 a3 ≤ 0) → K 1 μ)) ∧ ((a1 = 40) → ((¬ (l_cmp a2 a3) = 0) → K 0 μ) ∧ ((l_cmp a2 a3 = 0) → K 1 μ)) ∧ ((a1 = 41) → K (l_and a2 a3) μ) ∧ (((a1 < 31 ∨ 41 < a1)) → K (l_or a2 a3) μ)) :
    mW G X YX12_two μ 0 [some (vI a1), some (vJ a2), none, some (vJ a3), none] [] := by
  refine m_iload_n C dX12_two_0 rfl ?_
  by_cases hx : a1 < 31 ∨ 41 < a1
  · have h := h.2.2.2.2.2.2.2.2.2.2.2 (by omega)
    refine m_swOut (tgt := 177) C dX12_two_1 hx (by decide) ?_
    refine m_lload_n C dX12_two_177 rfl ?_
    refine m_lload_n C dX12_two_178 rfl ?_
    refine m_lor C dX12_two_179 ?_
    exact f_lret C R rfl dX12_two_180 h
  · have hx : a1 = 31 ∨ a1 = 32 ∨ a1 = 33 ∨ a1 = 34 ∨ a1 = 35 ∨ a1 = 36 ∨ a1 = 37 ∨ a1 = 38 ∨ a1 = 39 ∨ a1 = 40 ∨ a1 = 41 := by omega
    rcases hx with hx | hx | hx | hx | hx | hx | hx | hx | hx | hx | hx
    · have h := h.1 hx
      refine m_swIn (tgt := 60) (off := 59) C dX12_two_1 (by omega) (by omega) (by rw [hx]; rfl) (by decide) ?_
      refine m_lload_n C dX12_two_60 rfl ?_
      refine m_lload_n C dX12_two_61 rfl ?_
      refine m_ladd C dX12_two_62 ?_
      refine f_callSl (As := [vJ (w64 (a2 + a3))]) (st := []) C dX12_two_63 ml_KilnBenchModel_393 rfl rfl (Nat.le_of_ble_eq_true rfl) h (fun r2 μ1 h => ?_)
      exact f_lret C R rfl dX12_two_66 h
    · have h := h.2.1 hx
      refine m_swIn (tgt := 67) (off := 66) C dX12_two_1 (by omega) (by omega) (by rw [hx]; rfl) (by decide) ?_
      refine m_lload_n C dX12_two_67 rfl ?_
      refine m_lload_n C dX12_two_68 rfl ?_
      refine m_lsub C dX12_two_69 ?_
      refine f_callSl (As := [vJ (w64 (a2 - a3))]) (st := []) C dX12_two_70 ml_KilnBenchModel_393 rfl rfl (Nat.le_of_ble_eq_true rfl) h (fun r4 μ3 h => ?_)
      exact f_lret C R rfl dX12_two_73 h
    · have h := h.2.2.1 hx
      refine m_swIn (tgt := 74) (off := 73) C dX12_two_1 (by omega) (by omega) (by rw [hx]; rfl) (by decide) ?_
      refine m_lload_n C dX12_two_74 rfl ?_
      refine m_lload_n C dX12_two_75 rfl ?_
      refine m_lmul C dX12_two_76 ?_
      refine f_callSl (As := [vJ (w64 (a2 * a3))]) (st := []) C dX12_two_77 ml_KilnBenchModel_393 rfl rfl (Nat.le_of_ble_eq_true rfl) h (fun r6 μ5 h => ?_)
      exact f_lret C R rfl dX12_two_80 h
    · have h := h.2.2.2.1 hx
      refine m_swIn (tgt := 81) (off := 80) C dX12_two_1 (by omega) (by omega) (by rw [hx]; rfl) (by decide) ?_
      refine m_lload_n C dX12_two_81 rfl ?_
      refine m_lload_n C dX12_two_82 rfl ?_
      refine f_callSl (As := [vJ a2, vJ a3]) (st := []) C dX12_two_83 ml_KilnBenchModel_397 rfl rfl (Nat.le_of_ble_eq_true rfl) h (fun r8 μ7 h => ?_)
      refine f_callSl (As := [vJ r8]) (st := []) C dX12_two_86 ml_KilnBenchModel_393 rfl rfl (Nat.le_of_ble_eq_true rfl) h (fun r10 μ9 h => ?_)
      exact f_lret C R rfl dX12_two_89 h
    · have h := h.2.2.2.2.1 hx
      refine m_swIn (tgt := 90) (off := 89) C dX12_two_1 (by omega) (by omega) (by rw [hx]; rfl) (by decide) ?_
      refine m_lload_n C dX12_two_90 rfl ?_
      refine m_lconst (x := 0) C dX12_two_91 rfl ?_
      refine m_lcmp C dX12_two_92 ?_
      refine m_if_ne (tgt := 100) C dX12_two_93 (by decide) (fun c => ?_) (fun c => ?_)
      · have h := h.1 c
        refine m_lload_n C dX12_two_100 rfl ?_
        refine m_lload_n C dX12_two_101 rfl ?_
        refine m_lload_n C dX12_two_102 rfl ?_
        refine m_lload_n C dX12_two_103 rfl ?_
        refine f_callSl (As := [vJ a2, vJ a3]) (st := [vJ a3, vJ a2]) C dX12_two_104 ml_KilnBenchModel_397 rfl rfl (Nat.le_of_ble_eq_true rfl) h (fun r12 μ11 h => ?_)
        refine m_lmul C dX12_two_107 ?_
        refine m_lsub C dX12_two_108 ?_
        refine f_callSl (As := [vJ (w64 (a2 - (w64 (a3 * r12))))]) (st := []) C dX12_two_109 ml_KilnBenchModel_393 rfl rfl (Nat.le_of_ble_eq_true rfl) h (fun r14 μ13 h => ?_)
        exact f_lret C R rfl dX12_two_112 h
      · have h := h.2 c
        refine m_lconst (x := 0) C dX12_two_96 rfl ?_
        refine m_goto (tgt := 112) C dX12_two_97 (by decide) ?_
        exact f_lret C R rfl dX12_two_112 h
    · have h := h.2.2.2.2.2.1 hx
      refine m_swIn (tgt := 113) (off := 112) C dX12_two_1 (by omega) (by omega) (by rw [hx]; rfl) (by decide) ?_
      refine m_lload_n C dX12_two_113 rfl ?_
      refine m_lload_n C dX12_two_114 rfl ?_
      refine m_lcmp C dX12_two_115 ?_
      refine m_if_ge (tgt := 123) C dX12_two_116 (by decide) (fun c => ?_) (fun c => ?_)
      · have h := h.1 c
        refine m_lload_n C dX12_two_123 rfl ?_
        exact f_lret C R rfl dX12_two_124 h
      · have h := h.2 c
        refine m_lload_n C dX12_two_119 rfl ?_
        refine m_goto (tgt := 124) C dX12_two_120 (by decide) ?_
        exact f_lret C R rfl dX12_two_124 h
    · have h := h.2.2.2.2.2.2.1 hx
      refine m_swIn (tgt := 125) (off := 124) C dX12_two_1 (by omega) (by omega) (by rw [hx]; rfl) (by decide) ?_
      refine m_lload_n C dX12_two_125 rfl ?_
      refine m_lload_n C dX12_two_126 rfl ?_
      refine m_lcmp C dX12_two_127 ?_
      refine m_if_le (tgt := 135) C dX12_two_128 (by decide) (fun c => ?_) (fun c => ?_)
      · have h := h.1 c
        refine m_lload_n C dX12_two_135 rfl ?_
        exact f_lret C R rfl dX12_two_136 h
      · have h := h.2 c
        refine m_lload_n C dX12_two_131 rfl ?_
        refine m_goto (tgt := 136) C dX12_two_132 (by decide) ?_
        exact f_lret C R rfl dX12_two_136 h
    · have h := h.2.2.2.2.2.2.2.1 hx
      refine m_swIn (tgt := 137) (off := 136) C dX12_two_1 (by omega) (by omega) (by rw [hx]; rfl) (by decide) ?_
      refine m_lload_n C dX12_two_137 rfl ?_
      refine m_lload_n C dX12_two_138 rfl ?_
      refine m_lcmp C dX12_two_139 ?_
      refine m_if_ge (tgt := 147) C dX12_two_140 (by decide) (fun c => ?_) (fun c => ?_)
      · have h := h.1 c
        refine m_lconst (x := 0) C dX12_two_147 rfl ?_
        exact f_lret C R rfl dX12_two_148 h
      · have h := h.2 c
        refine m_lconst (x := 1) C dX12_two_143 rfl ?_
        refine m_goto (tgt := 148) C dX12_two_144 (by decide) ?_
        exact f_lret C R rfl dX12_two_148 h
    · have h := h.2.2.2.2.2.2.2.2.1 hx
      refine m_swIn (tgt := 149) (off := 148) C dX12_two_1 (by omega) (by omega) (by rw [hx]; rfl) (by decide) ?_
      refine m_lload_n C dX12_two_149 rfl ?_
      refine m_lload_n C dX12_two_150 rfl ?_
      refine m_lcmp C dX12_two_151 ?_
      refine m_if_le (tgt := 159) C dX12_two_152 (by decide) (fun c => ?_) (fun c => ?_)
      · have h := h.1 c
        refine m_lconst (x := 0) C dX12_two_159 rfl ?_
        exact f_lret C R rfl dX12_two_160 h
      · have h := h.2 c
        refine m_lconst (x := 1) C dX12_two_155 rfl ?_
        refine m_goto (tgt := 160) C dX12_two_156 (by decide) ?_
        exact f_lret C R rfl dX12_two_160 h
    · have h := h.2.2.2.2.2.2.2.2.2.1 hx
      refine m_swIn (tgt := 161) (off := 160) C dX12_two_1 (by omega) (by omega) (by rw [hx]; rfl) (by decide) ?_
      refine m_lload_n C dX12_two_161 rfl ?_
      refine m_lload_n C dX12_two_162 rfl ?_
      refine m_lcmp C dX12_two_163 ?_
      refine m_if_ne (tgt := 171) C dX12_two_164 (by decide) (fun c => ?_) (fun c => ?_)
      · have h := h.1 c
        refine m_lconst (x := 0) C dX12_two_171 rfl ?_
        exact f_lret C R rfl dX12_two_172 h
      · have h := h.2 c
        refine m_lconst (x := 1) C dX12_two_167 rfl ?_
        refine m_goto (tgt := 172) C dX12_two_168 (by decide) ?_
        exact f_lret C R rfl dX12_two_172 h
    · have h := h.2.2.2.2.2.2.2.2.2.2.1 hx
      refine m_swIn (tgt := 173) (off := 172) C dX12_two_1 (by omega) (by omega) (by rw [hx]; rfl) (by decide) ?_
      refine m_lload_n C dX12_two_173 rfl ?_
      refine m_lload_n C dX12_two_174 rfl ?_
      refine m_land C dX12_two_175 ?_
      exact f_lret C R rfl dX12_two_176 h

set_option maxRecDepth 20000 in
theorem VX12_reckons_0 {G : m_G} {X : m_X} {d : Nat} {K : Int → m_M → Prop} (C : mC G X YX12_reckons (d + 1)) (R : r_l G X K) {μ : m_M} {a1 : Int}
    (h : (0 ≤ w32 ((w32 (4 * (μ 34 0 13))) + a1) ∧ w32 ((w32 (4 * (μ 34 0 13))) + a1) < 8) ∧ ∀ x2 : Int, x2 = w32 ((w32 (1600 * (μ 34 0 13))) + (μ 34 23 (w32 ((w32 (4 * (μ 34 0 13))) + a1)).toNat)) → mW G X YX12_reckons μ 25 [some (vR 34 0), some (vI a1), some (vI 0), some (vI x2), none] []) :
    mW G X YX12_reckons μ 0 [some (vR 34 0), some (vI a1), none, none, none] [] := by
  refine m_iconst C dX12_reckons_0 (by unfold in32; omega) ?_
  refine o_istore_n [some (vR 34 0), some (vI a1), some (vI 0), none, none] C dX12_reckons_1 (by decide) rfl ?_
  refine m_sipush C dX12_reckons_2 (by omega) ?_
  refine m_aload_n C dX12_reckons_5 rfl ?_
  refine f_getI C dX12_reckons_6 fl_KilnBenchModel_51 rfl (by decide) (by decide) ?_
  refine m_imul C dX12_reckons_9 ?_
  refine m_aload_n C dX12_reckons_10 rfl ?_
  refine f_getA C dX12_reckons_11 fl_KilnBenchModel_78 rfl (by decide) (by decide) (by decide) (by decide) ?_
  refine m_iconst C dX12_reckons_14 (by unfold in32; omega) ?_
  refine m_aload_n C dX12_reckons_15 rfl ?_
  refine f_getI C dX12_reckons_16 fl_KilnBenchModel_51 rfl (by decide) (by decide) ?_
  refine m_imul C dX12_reckons_19 ?_
  refine m_iload_n C dX12_reckons_20 rfl ?_
  refine m_iadd C dX12_reckons_21 ?_
  obtain ⟨hb, h⟩ := h
  refine f_iald C dX12_reckons_22 (m_arO (a := 0) (len := 8) rfl rfl) (by decide) hb ?_
  refine m_iadd C dX12_reckons_23 ?_
  refine n_istore_n (fun x2 => [some (vR 34 0), some (vI a1), some (vI 0), some (vI x2), none]) C dX12_reckons_24 (by decide) (fun _ => rfl) (fun x2 ex2 => ?_)
  have h := h x2 ex2
  exact h

set_option maxRecDepth 20000 in
theorem VX12_reckons_25 {G : m_G} {X : m_X} {d : Nat} {K : Int → m_M → Prop} (C : mC G X YX12_reckons (d + 1)) (R : r_l G X K) {μ : m_M} {a1 : Int} {l2 : Int} {l3 : Int}
    (h : (0 ≤ w32 ((w32 (4 * (μ 34 0 13))) + a1) ∧ w32 ((w32 (4 * (μ 34 0 13))) + a1) < 8) ∧ ((w32 ((w32 (1600 * (μ 34 0 13))) + (μ 34 24 (w32 ((w32 (4 * (μ 34 0 13))) + a1)).toNat)) ≤ l3) → K (μ 34 56 0) μ) ∧ ((¬ w32 ((w32 (1600 * (μ 34 0 13))) + (μ 34 24 (w32 ((w32 (4 * (μ 34 0 13))) + a1)).toNat)) ≤ l3) → (0 ≤ l3 ∧ l3 < 3200) ∧ ∀ x1 : Int, x1 = μ 34 25 l3.toNat → ((30 < x1) → ((¬ x1 = 43) → ((¬ x1 = 44) → ∀ x2 : Int, x2 = w32 (l2 + (-1)) → (0 ≤ w32 (x2 - 1) ∧ w32 (x2 - 1) < 500) ∧ (0 ≤ x2 ∧ x2 < 500) ∧ c_l G d YX12_two [vI x1, vJ (μ 34 56 (w32 (x2 - 1)).toNat), vJ (μ 34 56 x2.toNat)] μ (fun r4 μ3 => (0 ≤ w32 (x2 - 1) ∧ w32 (x2 - 1) < 500) ∧ ∀ μ5 : m_M, μ5 = m_up μ3 34 56 (w32 (x2 - 1)).toNat r4 → ∀ x6 : Int, x6 = w32 (l3 + 1) → mW G X YX12_reckons μ5 25 [some (vR 34 0), some (vI a1), some (vI x2), some (vI x6), none] [])) ∧ ((x1 = 44) → ∀ x7 : Int, x7 = w32 (l2 + (-2)) → (0 ≤ w32 (x7 - 1) ∧ w32 (x7 - 1) < 500) ∧ ((¬ (l_cmp (μ 34 56 (w32 (x7 - 1)).toNat) 1) = 0) → (0 ≤ w32 (x7 + 1) ∧ w32 (x7 + 1) < 500) ∧ (0 ≤ w32 (x7 - 1) ∧ w32 (x7 - 1) < 500) ∧ ∀ μ8 : m_M, μ8 = m_up μ 34 56 (w32 (x7 - 1)).toNat (μ 34 56 (w32 (x7 + 1)).toNat) → ∀ x9 : Int, x9 = w32 (l3 + 1) → mW G X YX12_reckons μ8 25 [some (vR 34 0), some (vI a1), some (vI x7), some (vI x9), none] []) ∧ ((l_cmp (μ 34 56 (w32 (x7 - 1)).toNat) 1 = 0) → (0 ≤ x7 ∧ x7 < 500) ∧ (0 ≤ w32 (x7 - 1) ∧ w32 (x7 - 1) < 500) ∧ ∀ μ10 : m_M, μ10 = m_up μ 34 56 (w32 (x7 - 1)).toNat (μ 34 56 x7.toNat) → ∀ x11 : Int, x11 = w32 (l3 + 1) → mW G X YX12_reckons μ10 25 [some (vR 34 0), some (vI a1), some (vI x7), some (vI x11), none] []))) ∧ ((x1 = 43) → (0 ≤ w32 (l2 - 1) ∧ w32 (l2 - 1) < 500) ∧ (0 ≤ w32 (l2 - 1) ∧ w32 (l2 - 1) < 500) ∧ ∀ μ12 : m_M, μ12 = m_up μ 34 56 (w32 (l2 - 1)).toNat (w64 (1 - (μ 34 56 (w32 (l2 - 1)).toNat))) → ∀ x13 : Int, x13 = w32 (l3 + 1) → mW G X YX12_reckons μ12 25 [some (vR 34 0), some (vI a1), some (vI l2), some (vI x13), none] [])) ∧ ((¬ 30 < x1) → ((¬ x1 = 0) → ((¬ x1 = 30) → (0 ≤ x1 ∧ x1 < 14) ∧ (0 ≤ l2 ∧ l2 < 500) ∧ ∀ μ14 : m_M, μ14 = m_up μ 34 56 l2.toNat (μ 34 57 x1.toNat) → ∀ x15 : Int, x15 = w32 (l2 + 1) → ∀ x16 : Int, x16 = w32 (l3 + 1) → mW G X YX12_reckons μ14 25 [some (vR 34 0), some (vI a1), some (vI x15), some (vI x16), none] []) ∧ ((x1 = 30) → (0 ≤ l2 ∧ l2 < 500) ∧ ∀ μ17 : m_M, μ17 = m_up μ 34 56 l2.toNat 1 → ∀ x18 : Int, x18 = w32 (l2 + 1) → ∀ x19 : Int, x19 = w32 (l3 + 1) → mW G X YX12_reckons μ17 25 [some (vR 34 0), some (vI a1), some (vI x18), some (vI x19), none] [])) ∧ ((x1 = 0) → (0 ≤ l3 ∧ l3 < 3200) ∧ (0 ≤ l2 ∧ l2 < 500) ∧ ∀ μ20 : m_M, μ20 = m_up μ 34 56 l2.toNat (μ 34 26 l3.toNat) → ∀ x21 : Int, x21 = w32 (l2 + 1) → ∀ x22 : Int, x22 = w32 (l3 + 1) → mW G X YX12_reckons μ20 25 [some (vR 34 0), some (vI a1), some (vI x21), some (vI x22), none] [])))) :
    mW G X YX12_reckons μ 25 [some (vR 34 0), some (vI a1), some (vI l2), some (vI l3), none] [] := by
  refine m_iload_n C dX12_reckons_25 rfl ?_
  refine m_sipush C dX12_reckons_26 (by omega) ?_
  refine m_aload_n C dX12_reckons_29 rfl ?_
  refine f_getI C dX12_reckons_30 fl_KilnBenchModel_51 rfl (by decide) (by decide) ?_
  refine m_imul C dX12_reckons_33 ?_
  refine m_aload_n C dX12_reckons_34 rfl ?_
  refine f_getA C dX12_reckons_35 fl_KilnBenchModel_81 rfl (by decide) (by decide) (by decide) (by decide) ?_
  refine m_iconst C dX12_reckons_38 (by unfold in32; omega) ?_
  refine m_aload_n C dX12_reckons_39 rfl ?_
  refine f_getI C dX12_reckons_40 fl_KilnBenchModel_51 rfl (by decide) (by decide) ?_
  refine m_imul C dX12_reckons_43 ?_
  refine m_iload_n C dX12_reckons_44 rfl ?_
  refine m_iadd C dX12_reckons_45 ?_
  obtain ⟨hb, h⟩ := h
  refine f_iald C dX12_reckons_46 (m_arO (a := 0) (len := 8) rfl rfl) (by decide) hb ?_
  refine m_iadd C dX12_reckons_47 ?_
  refine m_icmp_ge (tgt := 227) C dX12_reckons_48 (by decide) (fun c => ?_) (fun c => ?_)
  · have h := h.1 c
    refine m_aload_n C dX12_reckons_227 rfl ?_
    refine f_getA C dX12_reckons_228 fl_KilnBenchModel_180 rfl (by decide) (by decide) (by decide) (by decide) ?_
    refine m_iconst C dX12_reckons_231 (by unfold in32; omega) ?_
    refine f_lald C dX12_reckons_232 (m_arO (a := 3) (len := 500) rfl rfl) (by decide) (by decide) ?_
    exact f_lret C R rfl dX12_reckons_233 h
  · have h := h.2 c
    refine m_aload_n C dX12_reckons_51 rfl ?_
    refine f_getA C dX12_reckons_52 fl_KilnBenchModel_84 rfl (by decide) (by decide) (by decide) (by decide) ?_
    refine m_iload_n C dX12_reckons_55 rfl ?_
    obtain ⟨hb, h⟩ := h
    refine f_iald C dX12_reckons_56 (m_arO (a := 0) (len := 3200) rfl rfl) (by decide) hb ?_
    refine n_istore (fun x1 => [some (vR 34 0), some (vI a1), some (vI l2), some (vI l3), some (vI x1)]) C dX12_reckons_57 (by decide) (fun _ => rfl) (fun x1 ex1 => ?_)
    have h := h x1 ex1
    refine m_iload C dX12_reckons_59 rfl ?_
    refine m_bipush C dX12_reckons_61 (by omega) ?_
    refine m_icmp_gt (tgt := 112) C dX12_reckons_63 (by decide) (fun c => ?_) (fun c => ?_)
    · have h := h.1 c
      refine m_iload C dX12_reckons_112 rfl ?_
      refine m_bipush C dX12_reckons_114 (by omega) ?_
      refine m_icmp_ne (tgt := 140) C dX12_reckons_116 (by decide) (fun c => ?_) (fun c => ?_)
      · have h := h.1 c
        refine m_iload C dX12_reckons_140 rfl ?_
        refine m_bipush C dX12_reckons_142 (by omega) ?_
        refine m_icmp_ne (tgt := 191) C dX12_reckons_144 (by decide) (fun c => ?_) (fun c => ?_)
        · have h := h.1 c
          refine n_iinc (fun x2 => [some (vR 34 0), some (vI a1), some (vI x2), some (vI l3), some (vI x1)]) C dX12_reckons_191 rfl (by decide) (fun _ => rfl) (fun x2 ex2 => ?_)
          have h := h x2 ex2
          refine m_aload_n C dX12_reckons_194 rfl ?_
          refine f_getA C dX12_reckons_195 fl_KilnBenchModel_180 rfl (by decide) (by decide) (by decide) (by decide) ?_
          refine m_iload_n C dX12_reckons_198 rfl ?_
          refine m_iconst C dX12_reckons_199 (by unfold in32; omega) ?_
          refine m_isub C dX12_reckons_200 ?_
          refine m_iload C dX12_reckons_201 rfl ?_
          refine m_aload_n C dX12_reckons_203 rfl ?_
          refine f_getA C dX12_reckons_204 fl_KilnBenchModel_180 rfl (by decide) (by decide) (by decide) (by decide) ?_
          refine m_iload_n C dX12_reckons_207 rfl ?_
          refine m_iconst C dX12_reckons_208 (by unfold in32; omega) ?_
          refine m_isub C dX12_reckons_209 ?_
          obtain ⟨hb, h⟩ := h
          refine f_lald C dX12_reckons_210 (m_arO (a := 3) (len := 500) rfl rfl) (by decide) hb ?_
          refine m_aload_n C dX12_reckons_211 rfl ?_
          refine f_getA C dX12_reckons_212 fl_KilnBenchModel_180 rfl (by decide) (by decide) (by decide) (by decide) ?_
          refine m_iload_n C dX12_reckons_215 rfl ?_
          obtain ⟨hb, h⟩ := h
          refine f_lald C dX12_reckons_216 (m_arO (a := 3) (len := 500) rfl rfl) (by decide) hb ?_
          refine f_callSl (As := [vI x1, vJ (μ 34 56 (w32 (x2 - 1)).toNat), vJ (μ 34 56 x2.toNat)]) (st := [vI (w32 (x2 - 1)), vR 34 56]) C dX12_reckons_217 ml_KilnBenchModel_401 rfl rfl (Nat.le_of_ble_eq_true rfl) h (fun r4 μ3 h => ?_)
          obtain ⟨hb, h⟩ := h
          refine f_last C dX12_reckons_220 (m_arO (a := 3) (len := 500) rfl rfl) (by decide) hb ?_
          refine n_mem (fun μ5 eμ5 => ?_)
          have h := h μ5 eμ5
          refine n_iinc (fun x6 => [some (vR 34 0), some (vI a1), some (vI x2), some (vI x6), some (vI x1)]) C dX12_reckons_221 rfl (by decide) (fun _ => rfl) (fun x6 ex6 => ?_)
          have h := h x6 ex6
          refine m_goto (tgt := 25) C dX12_reckons_224 (by decide) ?_
          exact n_weak (le_same (le_same (le_same (le_same (le_none le_nil))))) h
        · have h := h.2 c
          refine n_iinc (fun x7 => [some (vR 34 0), some (vI a1), some (vI x7), some (vI l3), some (vI x1)]) C dX12_reckons_147 rfl (by decide) (fun _ => rfl) (fun x7 ex7 => ?_)
          have h := h x7 ex7
          refine m_aload_n C dX12_reckons_150 rfl ?_
          refine f_getA C dX12_reckons_151 fl_KilnBenchModel_180 rfl (by decide) (by decide) (by decide) (by decide) ?_
          refine m_iload_n C dX12_reckons_154 rfl ?_
          refine m_iconst C dX12_reckons_155 (by unfold in32; omega) ?_
          refine m_isub C dX12_reckons_156 ?_
          refine m_aload_n C dX12_reckons_157 rfl ?_
          refine f_getA C dX12_reckons_158 fl_KilnBenchModel_180 rfl (by decide) (by decide) (by decide) (by decide) ?_
          refine m_iload_n C dX12_reckons_161 rfl ?_
          refine m_iconst C dX12_reckons_162 (by unfold in32; omega) ?_
          refine m_isub C dX12_reckons_163 ?_
          obtain ⟨hb, h⟩ := h
          refine f_lald C dX12_reckons_164 (m_arO (a := 3) (len := 500) rfl rfl) (by decide) hb ?_
          refine m_lconst (x := 1) C dX12_reckons_165 rfl ?_
          refine m_lcmp C dX12_reckons_166 ?_
          refine m_if_ne (tgt := 179) C dX12_reckons_167 (by decide) (fun c => ?_) (fun c => ?_)
          · have h := h.1 c
            refine m_aload_n C dX12_reckons_179 rfl ?_
            refine f_getA C dX12_reckons_180 fl_KilnBenchModel_180 rfl (by decide) (by decide) (by decide) (by decide) ?_
            refine m_iload_n C dX12_reckons_183 rfl ?_
            refine m_iconst C dX12_reckons_184 (by unfold in32; omega) ?_
            refine m_iadd C dX12_reckons_185 ?_
            obtain ⟨hb, h⟩ := h
            refine f_lald C dX12_reckons_186 (m_arO (a := 3) (len := 500) rfl rfl) (by decide) hb ?_
            obtain ⟨hb, h⟩ := h
            refine f_last C dX12_reckons_187 (m_arO (a := 3) (len := 500) rfl rfl) (by decide) hb ?_
            refine n_mem (fun μ8 eμ8 => ?_)
            have h := h μ8 eμ8
            refine m_goto (tgt := 221) C dX12_reckons_188 (by decide) ?_
            refine n_iinc (fun x9 => [some (vR 34 0), some (vI a1), some (vI x7), some (vI x9), some (vI x1)]) C dX12_reckons_221 rfl (by decide) (fun _ => rfl) (fun x9 ex9 => ?_)
            have h := h x9 ex9
            refine m_goto (tgt := 25) C dX12_reckons_224 (by decide) ?_
            exact n_weak (le_same (le_same (le_same (le_same (le_none le_nil))))) h
          · have h := h.2 c
            refine m_aload_n C dX12_reckons_170 rfl ?_
            refine f_getA C dX12_reckons_171 fl_KilnBenchModel_180 rfl (by decide) (by decide) (by decide) (by decide) ?_
            refine m_iload_n C dX12_reckons_174 rfl ?_
            obtain ⟨hb, h⟩ := h
            refine f_lald C dX12_reckons_175 (m_arO (a := 3) (len := 500) rfl rfl) (by decide) hb ?_
            refine m_goto (tgt := 187) C dX12_reckons_176 (by decide) ?_
            obtain ⟨hb, h⟩ := h
            refine f_last C dX12_reckons_187 (m_arO (a := 3) (len := 500) rfl rfl) (by decide) hb ?_
            refine n_mem (fun μ10 eμ10 => ?_)
            have h := h μ10 eμ10
            refine m_goto (tgt := 221) C dX12_reckons_188 (by decide) ?_
            refine n_iinc (fun x11 => [some (vR 34 0), some (vI a1), some (vI x7), some (vI x11), some (vI x1)]) C dX12_reckons_221 rfl (by decide) (fun _ => rfl) (fun x11 ex11 => ?_)
            have h := h x11 ex11
            refine m_goto (tgt := 25) C dX12_reckons_224 (by decide) ?_
            exact n_weak (le_same (le_same (le_same (le_same (le_none le_nil))))) h
      · have h := h.2 c
        refine m_aload_n C dX12_reckons_119 rfl ?_
        refine f_getA C dX12_reckons_120 fl_KilnBenchModel_180 rfl (by decide) (by decide) (by decide) (by decide) ?_
        refine m_iload_n C dX12_reckons_123 rfl ?_
        refine m_iconst C dX12_reckons_124 (by unfold in32; omega) ?_
        refine m_isub C dX12_reckons_125 ?_
        refine m_lconst (x := 1) C dX12_reckons_126 rfl ?_
        refine m_aload_n C dX12_reckons_127 rfl ?_
        refine f_getA C dX12_reckons_128 fl_KilnBenchModel_180 rfl (by decide) (by decide) (by decide) (by decide) ?_
        refine m_iload_n C dX12_reckons_131 rfl ?_
        refine m_iconst C dX12_reckons_132 (by unfold in32; omega) ?_
        refine m_isub C dX12_reckons_133 ?_
        obtain ⟨hb, h⟩ := h
        refine f_lald C dX12_reckons_134 (m_arO (a := 3) (len := 500) rfl rfl) (by decide) hb ?_
        refine m_lsub C dX12_reckons_135 ?_
        obtain ⟨hb, h⟩ := h
        refine f_last C dX12_reckons_136 (m_arO (a := 3) (len := 500) rfl rfl) (by decide) hb ?_
        refine n_mem (fun μ12 eμ12 => ?_)
        have h := h μ12 eμ12
        refine m_goto (tgt := 221) C dX12_reckons_137 (by decide) ?_
        refine n_iinc (fun x13 => [some (vR 34 0), some (vI a1), some (vI l2), some (vI x13), some (vI x1)]) C dX12_reckons_221 rfl (by decide) (fun _ => rfl) (fun x13 ex13 => ?_)
        have h := h x13 ex13
        refine m_goto (tgt := 25) C dX12_reckons_224 (by decide) ?_
        exact n_weak (le_same (le_same (le_same (le_same (le_none le_nil))))) h
    · have h := h.2 c
      refine m_aload_n C dX12_reckons_66 rfl ?_
      refine f_getA C dX12_reckons_67 fl_KilnBenchModel_180 rfl (by decide) (by decide) (by decide) (by decide) ?_
      refine m_iload_n C dX12_reckons_70 rfl ?_
      refine m_iload C dX12_reckons_71 rfl ?_
      refine m_if_ne (tgt := 86) C dX12_reckons_73 (by decide) (fun c => ?_) (fun c => ?_)
      · have h := h.1 c
        refine m_iload C dX12_reckons_86 rfl ?_
        refine m_bipush C dX12_reckons_88 (by omega) ?_
        refine m_icmp_ne (tgt := 97) C dX12_reckons_90 (by decide) (fun c => ?_) (fun c => ?_)
        · have h := h.1 c
          refine m_aload_n C dX12_reckons_97 rfl ?_
          refine f_getA C dX12_reckons_98 fl_KilnBenchModel_183 rfl (by decide) (by decide) (by decide) (by decide) ?_
          refine m_iload C dX12_reckons_101 rfl ?_
          obtain ⟨hb, h⟩ := h
          refine f_iald C dX12_reckons_103 (m_arO (a := 0) (len := 14) rfl rfl) (by decide) hb ?_
          refine m_i2l C dX12_reckons_104 ?_
          obtain ⟨hb, h⟩ := h
          refine f_last C dX12_reckons_105 (m_arO (a := 3) (len := 500) rfl rfl) (by decide) hb ?_
          refine n_mem (fun μ14 eμ14 => ?_)
          have h := h μ14 eμ14
          refine n_iinc (fun x15 => [some (vR 34 0), some (vI a1), some (vI x15), some (vI l3), some (vI x1)]) C dX12_reckons_106 rfl (by decide) (fun _ => rfl) (fun x15 ex15 => ?_)
          have h := h x15 ex15
          refine m_goto (tgt := 221) C dX12_reckons_109 (by decide) ?_
          refine n_iinc (fun x16 => [some (vR 34 0), some (vI a1), some (vI x15), some (vI x16), some (vI x1)]) C dX12_reckons_221 rfl (by decide) (fun _ => rfl) (fun x16 ex16 => ?_)
          have h := h x16 ex16
          refine m_goto (tgt := 25) C dX12_reckons_224 (by decide) ?_
          exact n_weak (le_same (le_same (le_same (le_same (le_none le_nil))))) h
        · have h := h.2 c
          refine m_lconst (x := 1) C dX12_reckons_93 rfl ?_
          refine m_goto (tgt := 105) C dX12_reckons_94 (by decide) ?_
          obtain ⟨hb, h⟩ := h
          refine f_last C dX12_reckons_105 (m_arO (a := 3) (len := 500) rfl rfl) (by decide) hb ?_
          refine n_mem (fun μ17 eμ17 => ?_)
          have h := h μ17 eμ17
          refine n_iinc (fun x18 => [some (vR 34 0), some (vI a1), some (vI x18), some (vI l3), some (vI x1)]) C dX12_reckons_106 rfl (by decide) (fun _ => rfl) (fun x18 ex18 => ?_)
          have h := h x18 ex18
          refine m_goto (tgt := 221) C dX12_reckons_109 (by decide) ?_
          refine n_iinc (fun x19 => [some (vR 34 0), some (vI a1), some (vI x18), some (vI x19), some (vI x1)]) C dX12_reckons_221 rfl (by decide) (fun _ => rfl) (fun x19 ex19 => ?_)
          have h := h x19 ex19
          refine m_goto (tgt := 25) C dX12_reckons_224 (by decide) ?_
          exact n_weak (le_same (le_same (le_same (le_same (le_none le_nil))))) h
      · have h := h.2 c
        refine m_aload_n C dX12_reckons_76 rfl ?_
        refine f_getA C dX12_reckons_77 fl_KilnBenchModel_87 rfl (by decide) (by decide) (by decide) (by decide) ?_
        refine m_iload_n C dX12_reckons_80 rfl ?_
        obtain ⟨hb, h⟩ := h
        refine f_iald C dX12_reckons_81 (m_arO (a := 0) (len := 3200) rfl rfl) (by decide) hb ?_
        refine m_i2l C dX12_reckons_82 ?_
        refine m_goto (tgt := 105) C dX12_reckons_83 (by decide) ?_
        obtain ⟨hb, h⟩ := h
        refine f_last C dX12_reckons_105 (m_arO (a := 3) (len := 500) rfl rfl) (by decide) hb ?_
        refine n_mem (fun μ20 eμ20 => ?_)
        have h := h μ20 eμ20
        refine n_iinc (fun x21 => [some (vR 34 0), some (vI a1), some (vI x21), some (vI l3), some (vI x1)]) C dX12_reckons_106 rfl (by decide) (fun _ => rfl) (fun x21 ex21 => ?_)
        have h := h x21 ex21
        refine m_goto (tgt := 221) C dX12_reckons_109 (by decide) ?_
        refine n_iinc (fun x22 => [some (vR 34 0), some (vI a1), some (vI x21), some (vI x22), some (vI x1)]) C dX12_reckons_221 rfl (by decide) (fun _ => rfl) (fun x22 ex22 => ?_)
        have h := h x22 ex22
        refine m_goto (tgt := 25) C dX12_reckons_224 (by decide) ?_
        exact n_weak (le_same (le_same (le_same (le_same (le_none le_nil))))) h

set_option maxRecDepth 20000 in
theorem VX12_isTold_0 {G : m_G} {X : m_X} {d : Nat} {K : Int → m_M → Prop} (C : mC G X YX12_isTold (d + 1)) (R : r_i G X K) {μ : m_M} {a1 : Int}
    (h : (0 ≤ w32 ((w32 (4 * (μ 34 0 13))) + a1) ∧ w32 ((w32 (4 * (μ 34 0 13))) + a1) < 8) ∧ ((μ 34 23 (w32 ((w32 (4 * (μ 34 0 13))) + a1)).toNat = (-1)) → K 0 μ) ∧ ((¬ μ 34 23 (w32 ((w32 (4 * (μ 34 0 13))) + a1)).toNat = (-1)) → K 1 μ)) :
    mW G X YX12_isTold μ 0 [some (vR 34 0), some (vI a1)] [] := by
  refine m_aload_n C dX12_isTold_0 rfl ?_
  refine f_getA C dX12_isTold_1 fl_KilnBenchModel_78 rfl (by decide) (by decide) (by decide) (by decide) ?_
  refine m_iconst C dX12_isTold_4 (by unfold in32; omega) ?_
  refine m_aload_n C dX12_isTold_5 rfl ?_
  refine f_getI C dX12_isTold_6 fl_KilnBenchModel_51 rfl (by decide) (by decide) ?_
  refine m_imul C dX12_isTold_9 ?_
  refine m_iload_n C dX12_isTold_10 rfl ?_
  refine m_iadd C dX12_isTold_11 ?_
  obtain ⟨hb, h⟩ := h
  refine f_iald C dX12_isTold_12 (m_arO (a := 0) (len := 8) rfl rfl) (by decide) hb ?_
  refine m_iconst C dX12_isTold_13 (by unfold in32; omega) ?_
  refine m_icmp_eq (tgt := 21) C dX12_isTold_14 (by decide) (fun c => ?_) (fun c => ?_)
  · have h := h.1 c
    refine m_iconst C dX12_isTold_21 (by unfold in32; omega) ?_
    exact f_zret C R rfl dX12_isTold_22 (by decide) h
  · have h := h.2 c
    refine m_iconst C dX12_isTold_17 (by unfold in32; omega) ?_
    refine m_goto (tgt := 22) C dX12_isTold_18 (by decide) ?_
    exact f_zret C R rfl dX12_isTold_22 (by decide) h

set_option maxRecDepth 20000 in
theorem VX12_lays_0 {G : m_G} {X : m_X} {d : Nat} {K : m_M → Prop} (C : mC G X YX12_lays (d + 1)) (R : r_v G X K) {μ : m_M} {a1 : Int} {a2 : Int} {a3 : Int} {a4 : Int}
    (h : ∀ μ1 : m_M, μ1 = m_up μ 34 57 1 a3 → (0 ≤ a1 ∧ a1 < 22) ∧ ∀ μ2 : m_M, μ2 = m_up μ1 34 57 2 (μ1 34 43 a1.toNat) → (0 ≤ w32 ((w32 (8 * (μ2 34 0 13))) + a2) ∧ w32 ((w32 (8 * (μ2 34 0 13))) + a2) < 16) ∧ ∀ μ3 : m_M, μ3 = m_up μ2 34 57 3 (μ2 34 16 (w32 ((w32 (8 * (μ2 34 0 13))) + a2)).toNat) → (0 ≤ w32 ((w32 (8 * (μ3 34 0 13))) + a2) ∧ w32 ((w32 (8 * (μ3 34 0 13))) + a2) < 16) ∧ ∀ μ4 : m_M, μ4 = m_up μ3 34 57 4 (μ3 34 17 (w32 ((w32 (8 * (μ3 34 0 13))) + a2)).toNat) → ∀ μ5 : m_M, μ5 = m_up μ4 34 57 5 a4 → K μ5) :
    mW G X YX12_lays μ 0 [some (vR 34 0), some (vI a1), some (vI a2), some (vI a3), some (vI a4)] [] := by
  refine m_aload_n C dX12_lays_0 rfl ?_
  refine f_getA C dX12_lays_1 fl_KilnBenchModel_183 rfl (by decide) (by decide) (by decide) (by decide) ?_
  refine m_iconst C dX12_lays_4 (by unfold in32; omega) ?_
  refine m_iload_n C dX12_lays_5 rfl ?_
  refine f_iast C dX12_lays_6 (m_arO (a := 0) (len := 14) rfl rfl) (by decide) (by decide) ?_
  refine n_mem (fun μ1 eμ1 => ?_)
  have h := h μ1 eμ1
  refine m_aload_n C dX12_lays_7 rfl ?_
  refine f_getA C dX12_lays_8 fl_KilnBenchModel_183 rfl (by decide) (by decide) (by decide) (by decide) ?_
  refine m_iconst C dX12_lays_11 (by unfold in32; omega) ?_
  refine m_aload_n C dX12_lays_12 rfl ?_
  refine f_getA C dX12_lays_13 fl_KilnBenchModel_141 rfl (by decide) (by decide) (by decide) (by decide) ?_
  refine m_iload_n C dX12_lays_16 rfl ?_
  obtain ⟨hb, h⟩ := h
  refine f_iald C dX12_lays_17 (m_arO (a := 0) (len := 22) rfl rfl) (by decide) hb ?_
  refine f_iast C dX12_lays_18 (m_arO (a := 0) (len := 14) rfl rfl) (by decide) (by decide) ?_
  refine n_mem (fun μ2 eμ2 => ?_)
  have h := h μ2 eμ2
  refine m_aload_n C dX12_lays_19 rfl ?_
  refine f_getA C dX12_lays_20 fl_KilnBenchModel_183 rfl (by decide) (by decide) (by decide) (by decide) ?_
  refine m_iconst C dX12_lays_23 (by unfold in32; omega) ?_
  refine m_aload_n C dX12_lays_24 rfl ?_
  refine f_getA C dX12_lays_25 fl_KilnBenchModel_57 rfl (by decide) (by decide) (by decide) (by decide) ?_
  refine m_bipush C dX12_lays_28 (by omega) ?_
  refine m_aload_n C dX12_lays_30 rfl ?_
  refine f_getI C dX12_lays_31 fl_KilnBenchModel_51 rfl (by decide) (by decide) ?_
  refine m_imul C dX12_lays_34 ?_
  refine m_iload_n C dX12_lays_35 rfl ?_
  refine m_iadd C dX12_lays_36 ?_
  obtain ⟨hb, h⟩ := h
  refine f_iald C dX12_lays_37 (m_arO (a := 0) (len := 16) rfl rfl) (by decide) hb ?_
  refine f_iast C dX12_lays_38 (m_arO (a := 0) (len := 14) rfl rfl) (by decide) (by decide) ?_
  refine n_mem (fun μ3 eμ3 => ?_)
  have h := h μ3 eμ3
  refine m_aload_n C dX12_lays_39 rfl ?_
  refine f_getA C dX12_lays_40 fl_KilnBenchModel_183 rfl (by decide) (by decide) (by decide) (by decide) ?_
  refine m_iconst C dX12_lays_43 (by unfold in32; omega) ?_
  refine m_aload_n C dX12_lays_44 rfl ?_
  refine f_getA C dX12_lays_45 fl_KilnBenchModel_60 rfl (by decide) (by decide) (by decide) (by decide) ?_
  refine m_bipush C dX12_lays_48 (by omega) ?_
  refine m_aload_n C dX12_lays_50 rfl ?_
  refine f_getI C dX12_lays_51 fl_KilnBenchModel_51 rfl (by decide) (by decide) ?_
  refine m_imul C dX12_lays_54 ?_
  refine m_iload_n C dX12_lays_55 rfl ?_
  refine m_iadd C dX12_lays_56 ?_
  obtain ⟨hb, h⟩ := h
  refine f_iald C dX12_lays_57 (m_arO (a := 0) (len := 16) rfl rfl) (by decide) hb ?_
  refine f_iast C dX12_lays_58 (m_arO (a := 0) (len := 14) rfl rfl) (by decide) (by decide) ?_
  refine n_mem (fun μ4 eμ4 => ?_)
  have h := h μ4 eμ4
  refine m_aload_n C dX12_lays_59 rfl ?_
  refine f_getA C dX12_lays_60 fl_KilnBenchModel_183 rfl (by decide) (by decide) (by decide) (by decide) ?_
  refine m_iconst C dX12_lays_63 (by unfold in32; omega) ?_
  refine m_iload C dX12_lays_64 rfl ?_
  refine f_iast C dX12_lays_66 (m_arO (a := 0) (len := 14) rfl rfl) (by decide) (by decide) ?_
  refine n_mem (fun μ5 eμ5 => ?_)
  have h := h μ5 eμ5
  exact f_vret C R rfl dX12_lays_67 h

set_option maxRecDepth 20000 in
theorem VX12_ring_0 {G : m_G} {X : m_X} {d : Nat} {K : Int → m_M → Prop} (C : mC G X YX12_ring (d + 1)) (R : r_i G X K) {μ : m_M} {a1 : Int} {a2 : Int} {a3 : Int} {a4 : Int}
    (h : c_v G d YX12_lays [vR 34 0, vI a1, vI a2, vI a3, vI a4] μ (fun μ1 => c_i G d YX12_isTold [vR 34 0, vI 0] μ1 (fun r3 μ2 => ((r3 = 0) → ∀ x4 : Int, x4 = w32 (4 * a3) → ((0 ≤ l_cmp x4 0) → ((l_cmp x4 99 ≤ 0) → K (w32 x4) μ2) ∧ ((¬ l_cmp x4 99 ≤ 0) → K 99 μ2)) ∧ ((¬ 0 ≤ l_cmp x4 0) → K 0 μ2)) ∧ ((¬ r3 = 0) → c_l G d YX12_reckons [vR 34 0, vI 0] μ2 (fun r6 μ5 => ((0 ≤ l_cmp r6 0) → ((l_cmp r6 99 ≤ 0) → K (w32 r6) μ5) ∧ ((¬ l_cmp r6 99 ≤ 0) → K 99 μ5)) ∧ ((¬ 0 ≤ l_cmp r6 0) → K 0 μ5)))))) :
    mW G X YX12_ring μ 0 [some (vR 34 0), some (vI a1), some (vI a2), some (vI a3), some (vI a4), none, none] [] := by
  refine m_aload_n C dX12_ring_0 rfl ?_
  refine m_iload_n C dX12_ring_1 rfl ?_
  refine m_iload_n C dX12_ring_2 rfl ?_
  refine m_iload_n C dX12_ring_3 rfl ?_
  refine m_iload C dX12_ring_4 rfl ?_
  refine f_callVv (As := [vI a1, vI a2, vI a3, vI a4]) (st := []) C dX12_ring_6 ml_KilnBenchModel_405 rfl (by decide) rfl rfl rfl (Nat.le_of_ble_eq_true rfl) h (fun μ1 h => ?_)
  refine m_aload_n C dX12_ring_9 rfl ?_
  refine m_iconst C dX12_ring_10 (by unfold in32; omega) ?_
  refine f_callVi (As := [vI 0]) (st := []) C dX12_ring_11 ml_KilnBenchModel_409 rfl (by decide) rfl rfl rfl (Nat.le_of_ble_eq_true rfl) h (fun r3 μ2 h => ?_)
  refine m_if_eq (tgt := 25) C dX12_ring_14 (by decide) (fun c => ?_) (fun c => ?_)
  · have h := h.1 c
    refine m_iconst C dX12_ring_25 (by unfold in32; omega) ?_
    refine m_iload_n C dX12_ring_26 rfl ?_
    refine m_imul C dX12_ring_27 ?_
    refine m_i2l C dX12_ring_28 ?_
    refine n_lstore (fun x4 => [some (vR 34 0), some (vI a1), some (vI a2), some (vI a3), some (vI a4), some (vJ x4), none]) C dX12_ring_29 (by decide) (fun _ => rfl) (fun x4 ex4 => ?_)
    have h := h x4 ex4
    refine m_lload C dX12_ring_31 rfl ?_
    refine m_lconst (x := 0) C dX12_ring_33 rfl ?_
    refine m_lcmp C dX12_ring_34 ?_
    refine m_if_ge (tgt := 42) C dX12_ring_35 (by decide) (fun c => ?_) (fun c => ?_)
    · have h := h.1 c
      refine m_lload C dX12_ring_42 rfl ?_
      refine m_ldc2 (x := 99) C dX12_ring_44 lc_KilnBenchModel_416 rfl ?_
      refine m_lcmp C dX12_ring_47 ?_
      refine m_if_le (tgt := 56) C dX12_ring_48 (by decide) (fun c => ?_) (fun c => ?_)
      · have h := h.1 c
        refine m_lload C dX12_ring_56 rfl ?_
        refine m_l2i C dX12_ring_58 ?_
        exact f_iret C R rfl dX12_ring_59 h
      · have h := h.2 c
        refine m_bipush C dX12_ring_51 (by omega) ?_
        refine m_goto (tgt := 59) C dX12_ring_53 (by decide) ?_
        exact f_iret C R rfl dX12_ring_59 h
    · have h := h.2 c
      refine m_iconst C dX12_ring_38 (by unfold in32; omega) ?_
      refine m_goto (tgt := 59) C dX12_ring_39 (by decide) ?_
      exact f_iret C R rfl dX12_ring_59 h
  · have h := h.2 c
    refine m_aload_n C dX12_ring_17 rfl ?_
    refine m_iconst C dX12_ring_18 (by unfold in32; omega) ?_
    refine f_callVl (As := [vI 0]) (st := []) C dX12_ring_19 ml_KilnBenchModel_412 rfl (by decide) rfl rfl rfl (Nat.le_of_ble_eq_true rfl) h (fun r6 μ5 h => ?_)
    refine m_goto (tgt := 29) C dX12_ring_22 (by decide) ?_
    refine o_lstore [some (vR 34 0), some (vI a1), some (vI a2), some (vI a3), some (vI a4), some (vJ r6), none] C dX12_ring_29 (by decide) rfl ?_
    refine m_lload C dX12_ring_31 rfl ?_
    refine m_lconst (x := 0) C dX12_ring_33 rfl ?_
    refine m_lcmp C dX12_ring_34 ?_
    refine m_if_ge (tgt := 42) C dX12_ring_35 (by decide) (fun c => ?_) (fun c => ?_)
    · have h := h.1 c
      refine m_lload C dX12_ring_42 rfl ?_
      refine m_ldc2 (x := 99) C dX12_ring_44 lc_KilnBenchModel_416 rfl ?_
      refine m_lcmp C dX12_ring_47 ?_
      refine m_if_le (tgt := 56) C dX12_ring_48 (by decide) (fun c => ?_) (fun c => ?_)
      · have h := h.1 c
        refine m_lload C dX12_ring_56 rfl ?_
        refine m_l2i C dX12_ring_58 ?_
        exact f_iret C R rfl dX12_ring_59 h
      · have h := h.2 c
        refine m_bipush C dX12_ring_51 (by omega) ?_
        refine m_goto (tgt := 59) C dX12_ring_53 (by decide) ?_
        exact f_iret C R rfl dX12_ring_59 h
    · have h := h.2 c
      refine m_iconst C dX12_ring_38 (by unfold in32; omega) ?_
      refine m_goto (tgt := 59) C dX12_ring_39 (by decide) ?_
      exact f_iret C R rfl dX12_ring_59 h

set_option maxRecDepth 20000 in
theorem VX12_isCracking_0 {G : m_G} {X : m_X} {d : Nat} {K : Int → m_M → Prop} (C : mC G X YX12_isCracking (d + 1)) (R : r_i G X K) {μ : m_M} {a1 : Int} {a2 : Int} {a3 : Int} {a4 : Int}
    (h : c_i G d YX12_isTold [vR 34 0, vI 1] μ (fun r2 μ1 => ((¬ r2 = 0) → c_i G d YX12_ring [vR 34 0, vI a1, vI a2, vI a3, vI a4] μ1 (fun r4 μ3 => c_v G d YX12_lays [vR 34 0, vI a1, vI a2, vI a3, vI a4] μ3 (fun μ6 => ∀ μ7 : m_M, μ7 = m_up μ6 34 57 6 r4 → c_l G d YX12_reckons [vR 34 0, vI 1] μ7 (fun r9 μ8 => ((¬ (l_cmp r9 1) = 0) → K 0 μ8) ∧ ((l_cmp r9 1 = 0) → K 1 μ8))))) ∧ ((r2 = 0) → K 0 μ1))) :
    mW G X YX12_isCracking μ 0 [some (vR 34 0), some (vI a1), some (vI a2), some (vI a3), some (vI a4), none] [] := by
  refine m_aload_n C dX12_isCracking_0 rfl ?_
  refine m_iconst C dX12_isCracking_1 (by unfold in32; omega) ?_
  refine f_callVi (As := [vI 1]) (st := []) C dX12_isCracking_2 ml_KilnBenchModel_409 rfl (by decide) rfl rfl rfl (Nat.le_of_ble_eq_true rfl) h (fun r2 μ1 h => ?_)
  refine m_if_ne (tgt := 10) C dX12_isCracking_5 (by decide) (fun c => ?_) (fun c => ?_)
  · have h := h.1 c
    refine m_aload_n C dX12_isCracking_10 rfl ?_
    refine m_iload_n C dX12_isCracking_11 rfl ?_
    refine m_iload_n C dX12_isCracking_12 rfl ?_
    refine m_iload_n C dX12_isCracking_13 rfl ?_
    refine m_iload C dX12_isCracking_14 rfl ?_
    refine f_callVi (As := [vI a1, vI a2, vI a3, vI a4]) (st := []) C dX12_isCracking_16 ml_KilnBenchModel_418 rfl (by decide) rfl rfl rfl (Nat.le_of_ble_eq_true rfl) h (fun r4 μ3 h => ?_)
    refine o_istore [some (vR 34 0), some (vI a1), some (vI a2), some (vI a3), some (vI a4), some (vI r4)] C dX12_isCracking_19 (by decide) rfl ?_
    refine m_aload_n C dX12_isCracking_21 rfl ?_
    refine m_iload_n C dX12_isCracking_22 rfl ?_
    refine m_iload_n C dX12_isCracking_23 rfl ?_
    refine m_iload_n C dX12_isCracking_24 rfl ?_
    refine m_iload C dX12_isCracking_25 rfl ?_
    refine f_callVv (As := [vI a1, vI a2, vI a3, vI a4]) (st := []) C dX12_isCracking_27 ml_KilnBenchModel_405 rfl (by decide) rfl rfl rfl (Nat.le_of_ble_eq_true rfl) h (fun μ6 h => ?_)
    refine m_aload_n C dX12_isCracking_30 rfl ?_
    refine f_getA C dX12_isCracking_31 fl_KilnBenchModel_183 rfl (by decide) (by decide) (by decide) (by decide) ?_
    refine m_bipush C dX12_isCracking_34 (by omega) ?_
    refine m_iload C dX12_isCracking_36 rfl ?_
    refine f_iast C dX12_isCracking_38 (m_arO (a := 0) (len := 14) rfl rfl) (by decide) (by decide) ?_
    refine n_mem (fun μ7 eμ7 => ?_)
    have h := h μ7 eμ7
    refine m_aload_n C dX12_isCracking_39 rfl ?_
    refine m_iconst C dX12_isCracking_40 (by unfold in32; omega) ?_
    refine f_callVl (As := [vI 1]) (st := []) C dX12_isCracking_41 ml_KilnBenchModel_412 rfl (by decide) rfl rfl rfl (Nat.le_of_ble_eq_true rfl) h (fun r9 μ8 h => ?_)
    refine m_lconst (x := 1) C dX12_isCracking_44 rfl ?_
    refine m_lcmp C dX12_isCracking_45 ?_
    refine m_if_ne (tgt := 53) C dX12_isCracking_46 (by decide) (fun c => ?_) (fun c => ?_)
    · have h := h.1 c
      refine m_iconst C dX12_isCracking_53 (by unfold in32; omega) ?_
      exact f_zret C R rfl dX12_isCracking_54 (by decide) h
    · have h := h.2 c
      refine m_iconst C dX12_isCracking_49 (by unfold in32; omega) ?_
      refine m_goto (tgt := 54) C dX12_isCracking_50 (by decide) ?_
      exact f_zret C R rfl dX12_isCracking_54 (by decide) h
  · have h := h.2 c
    refine m_iconst C dX12_isCracking_8 (by unfold in32; omega) ?_
    exact f_zret C R rfl dX12_isCracking_9 (by decide) h

set_option maxRecDepth 20000 in
theorem VX12_isSticking_0 {G : m_G} {X : m_X} {d : Nat} {K : Int → m_M → Prop} (C : mC G X YX12_isSticking (d + 1)) (R : r_i G X K) {μ : m_M} {a1 : Int} {a2 : Int} {a3 : Int} {a4 : Int} {a5 : Int}
    (h : c_i G d YX12_isTold [vR 34 0, vI 2] μ (fun r2 μ1 => ((¬ r2 = 0) → c_i G d YX12_ring [vR 34 0, vI a1, vI a2, vI a4, vI a5] μ1 (fun r4 μ3 => c_i G d YX12_ring [vR 34 0, vI a1, vI a3, vI a4, vI (w32 (a5 + 1))] μ3 (fun r6 μ5 => ∀ x7 : Int, x7 = w32 (r4 - r6) → ∀ μ8 : m_M, μ8 = m_up μ5 34 57 1 a4 → (0 ≤ a1 ∧ a1 < 22) ∧ ∀ μ9 : m_M, μ9 = m_up μ8 34 57 2 (μ8 34 43 a1.toNat) → ((0 ≤ x7) → ∀ μ10 : m_M, μ10 = m_up μ9 34 57 7 x7 → (0 ≤ w32 ((w32 (8 * (μ10 34 0 13))) + a2) ∧ w32 ((w32 (8 * (μ10 34 0 13))) + a2) < 16) ∧ (0 ≤ w32 ((w32 (8 * (μ10 34 0 13))) + a3) ∧ w32 ((w32 (8 * (μ10 34 0 13))) + a3) < 16) ∧ ∀ μ11 : m_M, μ11 = m_up μ10 34 57 8 (w32 ((μ10 34 17 (w32 ((w32 (8 * (μ10 34 0 13))) + a2)).toNat) + (μ10 34 17 (w32 ((w32 (8 * (μ10 34 0 13))) + a3)).toNat))) → c_l G d YX12_reckons [vR 34 0, vI 2] μ11 (fun r13 μ12 => ((¬ (l_cmp r13 1) = 0) → K 0 μ12) ∧ ((l_cmp r13 1 = 0) → K 1 μ12))) ∧ ((¬ 0 ≤ x7) → ∀ μ14 : m_M, μ14 = m_up μ9 34 57 7 (w32 (-x7)) → (0 ≤ w32 ((w32 (8 * (μ14 34 0 13))) + a2) ∧ w32 ((w32 (8 * (μ14 34 0 13))) + a2) < 16) ∧ (0 ≤ w32 ((w32 (8 * (μ14 34 0 13))) + a3) ∧ w32 ((w32 (8 * (μ14 34 0 13))) + a3) < 16) ∧ ∀ μ15 : m_M, μ15 = m_up μ14 34 57 8 (w32 ((μ14 34 17 (w32 ((w32 (8 * (μ14 34 0 13))) + a2)).toNat) + (μ14 34 17 (w32 ((w32 (8 * (μ14 34 0 13))) + a3)).toNat))) → c_l G d YX12_reckons [vR 34 0, vI 2] μ15 (fun r17 μ16 => ((¬ (l_cmp r17 1) = 0) → K 0 μ16) ∧ ((l_cmp r17 1 = 0) → K 1 μ16)))))) ∧ ((r2 = 0) → K 0 μ1))) :
    mW G X YX12_isSticking μ 0 [some (vR 34 0), some (vI a1), some (vI a2), some (vI a3), some (vI a4), some (vI a5), none] [] := by
  refine m_aload_n C dX12_isSticking_0 rfl ?_
  refine m_iconst C dX12_isSticking_1 (by unfold in32; omega) ?_
  refine f_callVi (As := [vI 2]) (st := []) C dX12_isSticking_2 ml_KilnBenchModel_409 rfl (by decide) rfl rfl rfl (Nat.le_of_ble_eq_true rfl) h (fun r2 μ1 h => ?_)
  refine m_if_ne (tgt := 10) C dX12_isSticking_5 (by decide) (fun c => ?_) (fun c => ?_)
  · have h := h.1 c
    refine m_aload_n C dX12_isSticking_10 rfl ?_
    refine m_iload_n C dX12_isSticking_11 rfl ?_
    refine m_iload_n C dX12_isSticking_12 rfl ?_
    refine m_iload C dX12_isSticking_13 rfl ?_
    refine m_iload C dX12_isSticking_15 rfl ?_
    refine f_callVi (As := [vI a1, vI a2, vI a4, vI a5]) (st := []) C dX12_isSticking_17 ml_KilnBenchModel_418 rfl (by decide) rfl rfl rfl (Nat.le_of_ble_eq_true rfl) h (fun r4 μ3 h => ?_)
    refine m_aload_n C dX12_isSticking_20 rfl ?_
    refine m_iload_n C dX12_isSticking_21 rfl ?_
    refine m_iload_n C dX12_isSticking_22 rfl ?_
    refine m_iload C dX12_isSticking_23 rfl ?_
    refine m_iload C dX12_isSticking_25 rfl ?_
    refine m_iconst C dX12_isSticking_27 (by unfold in32; omega) ?_
    refine m_iadd C dX12_isSticking_28 ?_
    refine f_callVi (As := [vI a1, vI a3, vI a4, vI (w32 (a5 + 1))]) (st := [vI r4]) C dX12_isSticking_29 ml_KilnBenchModel_418 rfl (by decide) rfl rfl rfl (Nat.le_of_ble_eq_true rfl) h (fun r6 μ5 h => ?_)
    refine m_isub C dX12_isSticking_32 ?_
    refine n_istore (fun x7 => [some (vR 34 0), some (vI a1), some (vI a2), some (vI a3), some (vI a4), some (vI a5), some (vI x7)]) C dX12_isSticking_33 (by decide) (fun _ => rfl) (fun x7 ex7 => ?_)
    have h := h x7 ex7
    refine m_aload_n C dX12_isSticking_35 rfl ?_
    refine f_getA C dX12_isSticking_36 fl_KilnBenchModel_183 rfl (by decide) (by decide) (by decide) (by decide) ?_
    refine m_iconst C dX12_isSticking_39 (by unfold in32; omega) ?_
    refine m_iload C dX12_isSticking_40 rfl ?_
    refine f_iast C dX12_isSticking_42 (m_arO (a := 0) (len := 14) rfl rfl) (by decide) (by decide) ?_
    refine n_mem (fun μ8 eμ8 => ?_)
    have h := h μ8 eμ8
    refine m_aload_n C dX12_isSticking_43 rfl ?_
    refine f_getA C dX12_isSticking_44 fl_KilnBenchModel_183 rfl (by decide) (by decide) (by decide) (by decide) ?_
    refine m_iconst C dX12_isSticking_47 (by unfold in32; omega) ?_
    refine m_aload_n C dX12_isSticking_48 rfl ?_
    refine f_getA C dX12_isSticking_49 fl_KilnBenchModel_141 rfl (by decide) (by decide) (by decide) (by decide) ?_
    refine m_iload_n C dX12_isSticking_52 rfl ?_
    obtain ⟨hb, h⟩ := h
    refine f_iald C dX12_isSticking_53 (m_arO (a := 0) (len := 22) rfl rfl) (by decide) hb ?_
    refine f_iast C dX12_isSticking_54 (m_arO (a := 0) (len := 14) rfl rfl) (by decide) (by decide) ?_
    refine n_mem (fun μ9 eμ9 => ?_)
    have h := h μ9 eμ9
    refine m_aload_n C dX12_isSticking_55 rfl ?_
    refine f_getA C dX12_isSticking_56 fl_KilnBenchModel_183 rfl (by decide) (by decide) (by decide) (by decide) ?_
    refine m_bipush C dX12_isSticking_59 (by omega) ?_
    refine m_iload C dX12_isSticking_61 rfl ?_
    refine m_if_ge (tgt := 72) C dX12_isSticking_63 (by decide) (fun c => ?_) (fun c => ?_)
    · have h := h.1 c
      refine m_iload C dX12_isSticking_72 rfl ?_
      refine f_iast C dX12_isSticking_74 (m_arO (a := 0) (len := 14) rfl rfl) (by decide) (by decide) ?_
      refine n_mem (fun μ10 eμ10 => ?_)
      have h := h μ10 eμ10
      refine m_aload_n C dX12_isSticking_75 rfl ?_
      refine f_getA C dX12_isSticking_76 fl_KilnBenchModel_183 rfl (by decide) (by decide) (by decide) (by decide) ?_
      refine m_bipush C dX12_isSticking_79 (by omega) ?_
      refine m_aload_n C dX12_isSticking_81 rfl ?_
      refine f_getA C dX12_isSticking_82 fl_KilnBenchModel_60 rfl (by decide) (by decide) (by decide) (by decide) ?_
      refine m_bipush C dX12_isSticking_85 (by omega) ?_
      refine m_aload_n C dX12_isSticking_87 rfl ?_
      refine f_getI C dX12_isSticking_88 fl_KilnBenchModel_51 rfl (by decide) (by decide) ?_
      refine m_imul C dX12_isSticking_91 ?_
      refine m_iload_n C dX12_isSticking_92 rfl ?_
      refine m_iadd C dX12_isSticking_93 ?_
      obtain ⟨hb, h⟩ := h
      refine f_iald C dX12_isSticking_94 (m_arO (a := 0) (len := 16) rfl rfl) (by decide) hb ?_
      refine m_aload_n C dX12_isSticking_95 rfl ?_
      refine f_getA C dX12_isSticking_96 fl_KilnBenchModel_60 rfl (by decide) (by decide) (by decide) (by decide) ?_
      refine m_bipush C dX12_isSticking_99 (by omega) ?_
      refine m_aload_n C dX12_isSticking_101 rfl ?_
      refine f_getI C dX12_isSticking_102 fl_KilnBenchModel_51 rfl (by decide) (by decide) ?_
      refine m_imul C dX12_isSticking_105 ?_
      refine m_iload_n C dX12_isSticking_106 rfl ?_
      refine m_iadd C dX12_isSticking_107 ?_
      obtain ⟨hb, h⟩ := h
      refine f_iald C dX12_isSticking_108 (m_arO (a := 0) (len := 16) rfl rfl) (by decide) hb ?_
      refine m_iadd C dX12_isSticking_109 ?_
      refine f_iast C dX12_isSticking_110 (m_arO (a := 0) (len := 14) rfl rfl) (by decide) (by decide) ?_
      refine n_mem (fun μ11 eμ11 => ?_)
      have h := h μ11 eμ11
      refine m_aload_n C dX12_isSticking_111 rfl ?_
      refine m_iconst C dX12_isSticking_112 (by unfold in32; omega) ?_
      refine f_callVl (As := [vI 2]) (st := []) C dX12_isSticking_113 ml_KilnBenchModel_412 rfl (by decide) rfl rfl rfl (Nat.le_of_ble_eq_true rfl) h (fun r13 μ12 h => ?_)
      refine m_lconst (x := 1) C dX12_isSticking_116 rfl ?_
      refine m_lcmp C dX12_isSticking_117 ?_
      refine m_if_ne (tgt := 125) C dX12_isSticking_118 (by decide) (fun c => ?_) (fun c => ?_)
      · have h := h.1 c
        refine m_iconst C dX12_isSticking_125 (by unfold in32; omega) ?_
        exact f_zret C R rfl dX12_isSticking_126 (by decide) h
      · have h := h.2 c
        refine m_iconst C dX12_isSticking_121 (by unfold in32; omega) ?_
        refine m_goto (tgt := 126) C dX12_isSticking_122 (by decide) ?_
        exact f_zret C R rfl dX12_isSticking_126 (by decide) h
    · have h := h.2 c
      refine m_iload C dX12_isSticking_66 rfl ?_
      refine m_ineg C dX12_isSticking_68 ?_
      refine m_goto (tgt := 74) C dX12_isSticking_69 (by decide) ?_
      refine f_iast C dX12_isSticking_74 (m_arO (a := 0) (len := 14) rfl rfl) (by decide) (by decide) ?_
      refine n_mem (fun μ14 eμ14 => ?_)
      have h := h μ14 eμ14
      refine m_aload_n C dX12_isSticking_75 rfl ?_
      refine f_getA C dX12_isSticking_76 fl_KilnBenchModel_183 rfl (by decide) (by decide) (by decide) (by decide) ?_
      refine m_bipush C dX12_isSticking_79 (by omega) ?_
      refine m_aload_n C dX12_isSticking_81 rfl ?_
      refine f_getA C dX12_isSticking_82 fl_KilnBenchModel_60 rfl (by decide) (by decide) (by decide) (by decide) ?_
      refine m_bipush C dX12_isSticking_85 (by omega) ?_
      refine m_aload_n C dX12_isSticking_87 rfl ?_
      refine f_getI C dX12_isSticking_88 fl_KilnBenchModel_51 rfl (by decide) (by decide) ?_
      refine m_imul C dX12_isSticking_91 ?_
      refine m_iload_n C dX12_isSticking_92 rfl ?_
      refine m_iadd C dX12_isSticking_93 ?_
      obtain ⟨hb, h⟩ := h
      refine f_iald C dX12_isSticking_94 (m_arO (a := 0) (len := 16) rfl rfl) (by decide) hb ?_
      refine m_aload_n C dX12_isSticking_95 rfl ?_
      refine f_getA C dX12_isSticking_96 fl_KilnBenchModel_60 rfl (by decide) (by decide) (by decide) (by decide) ?_
      refine m_bipush C dX12_isSticking_99 (by omega) ?_
      refine m_aload_n C dX12_isSticking_101 rfl ?_
      refine f_getI C dX12_isSticking_102 fl_KilnBenchModel_51 rfl (by decide) (by decide) ?_
      refine m_imul C dX12_isSticking_105 ?_
      refine m_iload_n C dX12_isSticking_106 rfl ?_
      refine m_iadd C dX12_isSticking_107 ?_
      obtain ⟨hb, h⟩ := h
      refine f_iald C dX12_isSticking_108 (m_arO (a := 0) (len := 16) rfl rfl) (by decide) hb ?_
      refine m_iadd C dX12_isSticking_109 ?_
      refine f_iast C dX12_isSticking_110 (m_arO (a := 0) (len := 14) rfl rfl) (by decide) (by decide) ?_
      refine n_mem (fun μ15 eμ15 => ?_)
      have h := h μ15 eμ15
      refine m_aload_n C dX12_isSticking_111 rfl ?_
      refine m_iconst C dX12_isSticking_112 (by unfold in32; omega) ?_
      refine f_callVl (As := [vI 2]) (st := []) C dX12_isSticking_113 ml_KilnBenchModel_412 rfl (by decide) rfl rfl rfl (Nat.le_of_ble_eq_true rfl) h (fun r17 μ16 h => ?_)
      refine m_lconst (x := 1) C dX12_isSticking_116 rfl ?_
      refine m_lcmp C dX12_isSticking_117 ?_
      refine m_if_ne (tgt := 125) C dX12_isSticking_118 (by decide) (fun c => ?_) (fun c => ?_)
      · have h := h.1 c
        refine m_iconst C dX12_isSticking_125 (by unfold in32; omega) ?_
        exact f_zret C R rfl dX12_isSticking_126 (by decide) h
      · have h := h.2 c
        refine m_iconst C dX12_isSticking_121 (by unfold in32; omega) ?_
        refine m_goto (tgt := 126) C dX12_isSticking_122 (by decide) ?_
        exact f_zret C R rfl dX12_isSticking_126 (by decide) h
  · have h := h.2 c
    refine m_iconst C dX12_isSticking_8 (by unfold in32; omega) ?_
    exact f_zret C R rfl dX12_isSticking_9 (by decide) h

set_option maxRecDepth 20000 in
theorem VX12_inPlace_0 {G : m_G} {X : m_X} {d : Nat} {K : Int → m_M → Prop} (C : mC G X YX12_inPlace (d + 1)) (R : r_i G X K) {μ : m_M} {a1 : Int} {a2 : Int} {a3 : Int}
    (h : mW G X YX12_inPlace μ 3 [some (vR 34 0), some (vI a1), some (vI a2), some (vI a3), some (vI 0)] []) :
    mW G X YX12_inPlace μ 0 [some (vR 34 0), some (vI a1), some (vI a2), some (vI a3), none] [] := by
  refine m_iconst C dX12_inPlace_0 (by unfold in32; omega) ?_
  refine o_istore [some (vR 34 0), some (vI a1), some (vI a2), some (vI a3), some (vI 0)] C dX12_inPlace_1 (by decide) rfl ?_
  exact h

set_option maxRecDepth 20000 in
theorem VX12_inPlace_3 {G : m_G} {X : m_X} {d : Nat} {K : Int → m_M → Prop} (C : mC G X YX12_inPlace (d + 1)) (R : r_i G X K) {μ : m_M} {a1 : Int} {a2 : Int} {a3 : Int} {l4 : Int}
    (h : (0 ≤ μ 34 0 13 ∧ μ 34 0 13 < 2) ∧ ((μ 34 15 (μ 34 0 13).toNat ≤ l4) → K (-1) μ) ∧ ((¬ μ 34 15 (μ 34 0 13).toNat ≤ l4) → (0 ≤ w32 ((w32 (8 * a1)) + l4) ∧ w32 ((w32 (8 * a1)) + l4) < 176) ∧ ((¬ (μ 34 45 (w32 ((w32 (8 * a1)) + l4)).toNat) = a2) → ∀ x1 : Int, x1 = w32 (l4 + 1) → mW G X YX12_inPlace μ 3 [some (vR 34 0), some (vI a1), some (vI a2), some (vI a3), some (vI x1)] []) ∧ ((μ 34 45 (w32 ((w32 (8 * a1)) + l4)).toNat = a2) → (0 ≤ w32 ((w32 (8 * a1)) + l4) ∧ w32 ((w32 (8 * a1)) + l4) < 176) ∧ ((¬ (μ 34 46 (w32 ((w32 (8 * a1)) + l4)).toNat) = a3) → ∀ x2 : Int, x2 = w32 (l4 + 1) → mW G X YX12_inPlace μ 3 [some (vR 34 0), some (vI a1), some (vI a2), some (vI a3), some (vI x2)] []) ∧ ((μ 34 46 (w32 ((w32 (8 * a1)) + l4)).toNat = a3) → K l4 μ)))) :
    mW G X YX12_inPlace μ 3 [some (vR 34 0), some (vI a1), some (vI a2), some (vI a3), some (vI l4)] [] := by
  refine m_iload C dX12_inPlace_3 rfl ?_
  refine m_aload_n C dX12_inPlace_5 rfl ?_
  refine f_getA C dX12_inPlace_6 fl_KilnBenchModel_54 rfl (by decide) (by decide) (by decide) (by decide) ?_
  refine m_aload_n C dX12_inPlace_9 rfl ?_
  refine f_getI C dX12_inPlace_10 fl_KilnBenchModel_51 rfl (by decide) (by decide) ?_
  obtain ⟨hb, h⟩ := h
  refine f_iald C dX12_inPlace_13 (m_arO (a := 0) (len := 2) rfl rfl) (by decide) hb ?_
  refine m_icmp_ge (tgt := 58) C dX12_inPlace_14 (by decide) (fun c => ?_) (fun c => ?_)
  · have h := h.1 c
    refine m_iconst C dX12_inPlace_58 (by unfold in32; omega) ?_
    exact f_iret C R rfl dX12_inPlace_59 h
  · have h := h.2 c
    refine m_aload_n C dX12_inPlace_17 rfl ?_
    refine f_getA C dX12_inPlace_18 fl_KilnBenchModel_147 rfl (by decide) (by decide) (by decide) (by decide) ?_
    refine m_bipush C dX12_inPlace_21 (by omega) ?_
    refine m_iload_n C dX12_inPlace_23 rfl ?_
    refine m_imul C dX12_inPlace_24 ?_
    refine m_iload C dX12_inPlace_25 rfl ?_
    refine m_iadd C dX12_inPlace_27 ?_
    obtain ⟨hb, h⟩ := h
    refine f_iald C dX12_inPlace_28 (m_arO (a := 0) (len := 176) rfl rfl) (by decide) hb ?_
    refine m_iload_n C dX12_inPlace_29 rfl ?_
    refine m_icmp_ne (tgt := 52) C dX12_inPlace_30 (by decide) (fun c => ?_) (fun c => ?_)
    · have h := h.1 c
      refine n_iinc (fun x1 => [some (vR 34 0), some (vI a1), some (vI a2), some (vI a3), some (vI x1)]) C dX12_inPlace_52 rfl (by decide) (fun _ => rfl) (fun x1 ex1 => ?_)
      have h := h x1 ex1
      refine m_goto (tgt := 3) C dX12_inPlace_55 (by decide) ?_
      exact h
    · have h := h.2 c
      refine m_aload_n C dX12_inPlace_33 rfl ?_
      refine f_getA C dX12_inPlace_34 fl_KilnBenchModel_150 rfl (by decide) (by decide) (by decide) (by decide) ?_
      refine m_bipush C dX12_inPlace_37 (by omega) ?_
      refine m_iload_n C dX12_inPlace_39 rfl ?_
      refine m_imul C dX12_inPlace_40 ?_
      refine m_iload C dX12_inPlace_41 rfl ?_
      refine m_iadd C dX12_inPlace_43 ?_
      obtain ⟨hb, h⟩ := h
      refine f_iald C dX12_inPlace_44 (m_arO (a := 0) (len := 176) rfl rfl) (by decide) hb ?_
      refine m_iload_n C dX12_inPlace_45 rfl ?_
      refine m_icmp_ne (tgt := 52) C dX12_inPlace_46 (by decide) (fun c => ?_) (fun c => ?_)
      · have h := h.1 c
        refine n_iinc (fun x2 => [some (vR 34 0), some (vI a1), some (vI a2), some (vI a3), some (vI x2)]) C dX12_inPlace_52 rfl (by decide) (fun _ => rfl) (fun x2 ex2 => ?_)
        have h := h x2 ex2
        refine m_goto (tgt := 3) C dX12_inPlace_55 (by decide) ?_
        exact h
      · have h := h.2 c
        refine m_iload C dX12_inPlace_49 rfl ?_
        exact f_iret C R rfl dX12_inPlace_51 h

set_option maxRecDepth 20000 in
theorem VX12_full_0 {G : m_G} {X : m_X} {d : Nat} {K : Int → m_M → Prop} (C : mC G X YX12_full (d + 1)) (R : r_i G X K) {μ : m_M} {a1 : Int} {a2 : Int}
    (h : mW G X YX12_full μ 5 [some (vR 34 0), some (vI a1), some (vI a2), some (vI 0), some (vI 0)] []) :
    mW G X YX12_full μ 0 [some (vR 34 0), some (vI a1), some (vI a2), none, none] [] := by
  refine m_iconst C dX12_full_0 (by unfold in32; omega) ?_
  refine o_istore_n [some (vR 34 0), some (vI a1), some (vI a2), some (vI 0), none] C dX12_full_1 (by decide) rfl ?_
  refine m_iconst C dX12_full_2 (by unfold in32; omega) ?_
  refine o_istore [some (vR 34 0), some (vI a1), some (vI a2), some (vI 0), some (vI 0)] C dX12_full_3 (by decide) rfl ?_
  exact h

set_option maxRecDepth 20000 in
theorem VX12_full_5 {G : m_G} {X : m_X} {d : Nat} {K : Int → m_M → Prop} (C : mC G X YX12_full (d + 1)) (R : r_i G X K) {μ : m_M} {a1 : Int} {a2 : Int} {l3 : Int} {l4 : Int}
    (h : (0 ≤ μ 34 0 13 ∧ μ 34 0 13 < 2) ∧ ((μ 34 15 (μ 34 0 13).toNat ≤ l4) → K l3 μ) ∧ ((¬ μ 34 15 (μ 34 0 13).toNat ≤ l4) → (0 ≤ w32 ((w32 (8 * a1)) + l4) ∧ w32 ((w32 (8 * a1)) + l4) < 176) ∧ ((¬ (μ 34 45 (w32 ((w32 (8 * a1)) + l4)).toNat) = a2) → ∀ x1 : Int, x1 = w32 (l3 + 0) → ∀ x2 : Int, x2 = w32 (l4 + 1) → mW G X YX12_full μ 5 [some (vR 34 0), some (vI a1), some (vI a2), some (vI x1), some (vI x2)] []) ∧ ((μ 34 45 (w32 ((w32 (8 * a1)) + l4)).toNat = a2) → ∀ x3 : Int, x3 = w32 (l3 + 1) → ∀ x4 : Int, x4 = w32 (l4 + 1) → mW G X YX12_full μ 5 [some (vR 34 0), some (vI a1), some (vI a2), some (vI x3), some (vI x4)] []))) :
    mW G X YX12_full μ 5 [some (vR 34 0), some (vI a1), some (vI a2), some (vI l3), some (vI l4)] [] := by
  refine m_iload C dX12_full_5 rfl ?_
  refine m_aload_n C dX12_full_7 rfl ?_
  refine f_getA C dX12_full_8 fl_KilnBenchModel_54 rfl (by decide) (by decide) (by decide) (by decide) ?_
  refine m_aload_n C dX12_full_11 rfl ?_
  refine f_getI C dX12_full_12 fl_KilnBenchModel_51 rfl (by decide) (by decide) ?_
  obtain ⟨hb, h⟩ := h
  refine f_iald C dX12_full_15 (m_arO (a := 0) (len := 2) rfl rfl) (by decide) hb ?_
  refine m_icmp_ge (tgt := 49) C dX12_full_16 (by decide) (fun c => ?_) (fun c => ?_)
  · have h := h.1 c
    refine m_iload_n C dX12_full_49 rfl ?_
    exact f_iret C R rfl dX12_full_50 h
  · have h := h.2 c
    refine m_iload_n C dX12_full_19 rfl ?_
    refine m_aload_n C dX12_full_20 rfl ?_
    refine f_getA C dX12_full_21 fl_KilnBenchModel_147 rfl (by decide) (by decide) (by decide) (by decide) ?_
    refine m_bipush C dX12_full_24 (by omega) ?_
    refine m_iload_n C dX12_full_26 rfl ?_
    refine m_imul C dX12_full_27 ?_
    refine m_iload C dX12_full_28 rfl ?_
    refine m_iadd C dX12_full_30 ?_
    obtain ⟨hb, h⟩ := h
    refine f_iald C dX12_full_31 (m_arO (a := 0) (len := 176) rfl rfl) (by decide) hb ?_
    refine m_iload_n C dX12_full_32 rfl ?_
    refine m_icmp_ne (tgt := 40) C dX12_full_33 (by decide) (fun c => ?_) (fun c => ?_)
    · have h := h.1 c
      refine m_iconst C dX12_full_40 (by unfold in32; omega) ?_
      refine m_iadd C dX12_full_41 ?_
      refine n_istore_n (fun x1 => [some (vR 34 0), some (vI a1), some (vI a2), some (vI x1), some (vI l4)]) C dX12_full_42 (by decide) (fun _ => rfl) (fun x1 ex1 => ?_)
      have h := h x1 ex1
      refine n_iinc (fun x2 => [some (vR 34 0), some (vI a1), some (vI a2), some (vI x1), some (vI x2)]) C dX12_full_43 rfl (by decide) (fun _ => rfl) (fun x2 ex2 => ?_)
      have h := h x2 ex2
      refine m_goto (tgt := 5) C dX12_full_46 (by decide) ?_
      exact h
    · have h := h.2 c
      refine m_iconst C dX12_full_36 (by unfold in32; omega) ?_
      refine m_goto (tgt := 41) C dX12_full_37 (by decide) ?_
      refine m_iadd C dX12_full_41 ?_
      refine n_istore_n (fun x3 => [some (vR 34 0), some (vI a1), some (vI a2), some (vI x3), some (vI l4)]) C dX12_full_42 (by decide) (fun _ => rfl) (fun x3 ex3 => ?_)
      have h := h x3 ex3
      refine n_iinc (fun x4 => [some (vR 34 0), some (vI a1), some (vI a2), some (vI x3), some (vI x4)]) C dX12_full_43 rfl (by decide) (fun _ => rfl) (fun x4 ex4 => ?_)
      have h := h x4 ex4
      refine m_goto (tgt := 5) C dX12_full_46 (by decide) ?_
      exact h

set_option maxRecDepth 20000 in
theorem VX12_burnt_0 {G : m_G} {X : m_X} {d : Nat} {K : Int → m_M → Prop} (C : mC G X YX12_burnt (d + 1)) (R : r_i G X K) {μ : m_M} {a1 : Int} {a2 : Int}
    (h : (0 ≤ w32 ((w32 (3 * a1)) + a2) ∧ w32 ((w32 (3 * a1)) + a2) < 66) ∧ ∀ x1 : Int, x1 = μ 34 50 (w32 ((w32 (3 * a1)) + a2)).toNat → c_i G d YX12_isTold [vR 34 0, vI 3] μ (fun r3 μ2 => ((¬ r3 = 0) → ∀ μ4 : m_M, μ4 = m_up μ2 34 57 1 x1 → (0 ≤ a1 ∧ a1 < 22) ∧ ∀ μ5 : m_M, μ5 = m_up μ4 34 57 2 (μ4 34 43 a1.toNat) → (0 ≤ w32 ((w32 (3 * (μ5 34 0 13))) + a2) ∧ w32 ((w32 (3 * (μ5 34 0 13))) + a2) < 6) ∧ ∀ μ6 : m_M, μ6 = m_up μ5 34 57 9 (μ5 34 19 (w32 ((w32 (3 * (μ5 34 0 13))) + a2)).toNat) → c_i G d YX12_full [vR 34 0, vI a1, vI a2] μ6 (fun r8 μ7 => ∀ μ9 : m_M, μ9 = m_up μ7 34 57 10 r8 → c_l G d YX12_reckons [vR 34 0, vI 3] μ9 (fun r11 μ10 => ((0 ≤ l_cmp r11 0) → K (w32 r11) μ10) ∧ ((¬ 0 ≤ l_cmp r11 0) → K 0 μ10)))) ∧ ((r3 = 0) → K x1 μ2))) :
    mW G X YX12_burnt μ 0 [some (vR 34 0), some (vI a1), some (vI a2), none, none, none] [] := by
  refine m_aload_n C dX12_burnt_0 rfl ?_
  refine f_getA C dX12_burnt_1 fl_KilnBenchModel_162 rfl (by decide) (by decide) (by decide) (by decide) ?_
  refine m_iconst C dX12_burnt_4 (by unfold in32; omega) ?_
  refine m_iload_n C dX12_burnt_5 rfl ?_
  refine m_imul C dX12_burnt_6 ?_
  refine m_iload_n C dX12_burnt_7 rfl ?_
  refine m_iadd C dX12_burnt_8 ?_
  obtain ⟨hb, h⟩ := h
  refine f_iald C dX12_burnt_9 (m_arO (a := 0) (len := 66) rfl rfl) (by decide) hb ?_
  refine n_istore_n (fun x1 => [some (vR 34 0), some (vI a1), some (vI a2), some (vI x1), none, none]) C dX12_burnt_10 (by decide) (fun _ => rfl) (fun x1 ex1 => ?_)
  have h := h x1 ex1
  refine m_aload_n C dX12_burnt_11 rfl ?_
  refine m_iconst C dX12_burnt_12 (by unfold in32; omega) ?_
  refine f_callVi (As := [vI 3]) (st := []) C dX12_burnt_13 ml_KilnBenchModel_409 rfl (by decide) rfl rfl rfl (Nat.le_of_ble_eq_true rfl) h (fun r3 μ2 h => ?_)
  refine m_if_ne (tgt := 21) C dX12_burnt_16 (by decide) (fun c => ?_) (fun c => ?_)
  · have h := h.1 c
    refine m_aload_n C dX12_burnt_21 rfl ?_
    refine f_getA C dX12_burnt_22 fl_KilnBenchModel_183 rfl (by decide) (by decide) (by decide) (by decide) ?_
    refine m_iconst C dX12_burnt_25 (by unfold in32; omega) ?_
    refine m_iload_n C dX12_burnt_26 rfl ?_
    refine f_iast C dX12_burnt_27 (m_arO (a := 0) (len := 14) rfl rfl) (by decide) (by decide) ?_
    refine n_mem (fun μ4 eμ4 => ?_)
    have h := h μ4 eμ4
    refine m_aload_n C dX12_burnt_28 rfl ?_
    refine f_getA C dX12_burnt_29 fl_KilnBenchModel_183 rfl (by decide) (by decide) (by decide) (by decide) ?_
    refine m_iconst C dX12_burnt_32 (by unfold in32; omega) ?_
    refine m_aload_n C dX12_burnt_33 rfl ?_
    refine f_getA C dX12_burnt_34 fl_KilnBenchModel_141 rfl (by decide) (by decide) (by decide) (by decide) ?_
    refine m_iload_n C dX12_burnt_37 rfl ?_
    obtain ⟨hb, h⟩ := h
    refine f_iald C dX12_burnt_38 (m_arO (a := 0) (len := 22) rfl rfl) (by decide) hb ?_
    refine f_iast C dX12_burnt_39 (m_arO (a := 0) (len := 14) rfl rfl) (by decide) (by decide) ?_
    refine n_mem (fun μ5 eμ5 => ?_)
    have h := h μ5 eμ5
    refine m_aload_n C dX12_burnt_40 rfl ?_
    refine f_getA C dX12_burnt_41 fl_KilnBenchModel_183 rfl (by decide) (by decide) (by decide) (by decide) ?_
    refine m_bipush C dX12_burnt_44 (by omega) ?_
    refine m_aload_n C dX12_burnt_46 rfl ?_
    refine f_getA C dX12_burnt_47 fl_KilnBenchModel_66 rfl (by decide) (by decide) (by decide) (by decide) ?_
    refine m_iconst C dX12_burnt_50 (by unfold in32; omega) ?_
    refine m_aload_n C dX12_burnt_51 rfl ?_
    refine f_getI C dX12_burnt_52 fl_KilnBenchModel_51 rfl (by decide) (by decide) ?_
    refine m_imul C dX12_burnt_55 ?_
    refine m_iload_n C dX12_burnt_56 rfl ?_
    refine m_iadd C dX12_burnt_57 ?_
    obtain ⟨hb, h⟩ := h
    refine f_iald C dX12_burnt_58 (m_arO (a := 0) (len := 6) rfl rfl) (by decide) hb ?_
    refine f_iast C dX12_burnt_59 (m_arO (a := 0) (len := 14) rfl rfl) (by decide) (by decide) ?_
    refine n_mem (fun μ6 eμ6 => ?_)
    have h := h μ6 eμ6
    refine m_aload_n C dX12_burnt_60 rfl ?_
    refine f_getA C dX12_burnt_61 fl_KilnBenchModel_183 rfl (by decide) (by decide) (by decide) (by decide) ?_
    refine m_bipush C dX12_burnt_64 (by omega) ?_
    refine m_aload_n C dX12_burnt_66 rfl ?_
    refine m_iload_n C dX12_burnt_67 rfl ?_
    refine m_iload_n C dX12_burnt_68 rfl ?_
    refine f_callVi (As := [vI a1, vI a2]) (st := [vI 10, vR 34 57]) C dX12_burnt_69 ml_KilnBenchModel_422 rfl (by decide) rfl rfl rfl (Nat.le_of_ble_eq_true rfl) h (fun r8 μ7 h => ?_)
    refine f_iast C dX12_burnt_72 (m_arO (a := 0) (len := 14) rfl rfl) (by decide) (by decide) ?_
    refine n_mem (fun μ9 eμ9 => ?_)
    have h := h μ9 eμ9
    refine m_aload_n C dX12_burnt_73 rfl ?_
    refine m_iconst C dX12_burnt_74 (by unfold in32; omega) ?_
    refine f_callVl (As := [vI 3]) (st := []) C dX12_burnt_75 ml_KilnBenchModel_412 rfl (by decide) rfl rfl rfl (Nat.le_of_ble_eq_true rfl) h (fun r11 μ10 h => ?_)
    refine o_lstore [some (vR 34 0), some (vI a1), some (vI a2), some (vI x1), some (vJ r11), none] C dX12_burnt_78 (by decide) rfl ?_
    refine m_lload C dX12_burnt_80 rfl ?_
    refine m_lconst (x := 0) C dX12_burnt_82 rfl ?_
    refine m_lcmp C dX12_burnt_83 ?_
    refine m_if_ge (tgt := 91) C dX12_burnt_84 (by decide) (fun c => ?_) (fun c => ?_)
    · have h := h.1 c
      refine m_lload C dX12_burnt_91 rfl ?_
      refine m_l2i C dX12_burnt_93 ?_
      exact f_iret C R rfl dX12_burnt_94 h
    · have h := h.2 c
      refine m_iconst C dX12_burnt_87 (by unfold in32; omega) ?_
      refine m_goto (tgt := 94) C dX12_burnt_88 (by decide) ?_
      exact f_iret C R rfl dX12_burnt_94 h
  · have h := h.2 c
    refine m_iload_n C dX12_burnt_19 rfl ?_
    exact f_iret C R rfl dX12_burnt_20 h

set_option maxRecDepth 20000 in
theorem VX12_bits_0 {G : m_G} {X : m_X} {d : Nat} {K : Int → m_M → Prop} (C : mC G X YX12_bits (d + 1)) (R : r_i G X K) {μ : m_M} {a1 : Int}
    (h : mW G X YX12_bits μ 4 [some (vI a1), some (vI 0), some (vI a1)] []) :
    mW G X YX12_bits μ 0 [some (vI a1), none, none] [] := by
  refine m_iconst C dX12_bits_0 (by unfold in32; omega) ?_
  refine o_istore_n [some (vI a1), some (vI 0), none] C dX12_bits_1 (by decide) rfl ?_
  refine m_iload_n C dX12_bits_2 rfl ?_
  refine o_istore_n [some (vI a1), some (vI 0), some (vI a1)] C dX12_bits_3 (by decide) rfl ?_
  exact h

set_option maxRecDepth 20000 in
theorem VX12_bits_4 {G : m_G} {X : m_X} {d : Nat} {K : Int → m_M → Prop} (C : mC G X YX12_bits (d + 1)) (R : r_i G X K) {μ : m_M} {a1 : Int} {l1 : Int} {l2 : Int}
    (h : ((l2 = 0) → K l1 μ) ∧ ((¬ l2 = 0) → ∀ x1 : Int, x1 = w32 (l1 + 1) → ∀ x2 : Int, x2 = i_and l2 (w32 (l2 - 1)) → mW G X YX12_bits μ 4 [some (vI a1), some (vI x1), some (vI x2)] [])) :
    mW G X YX12_bits μ 4 [some (vI a1), some (vI l1), some (vI l2)] [] := by
  refine m_iload_n C dX12_bits_4 rfl ?_
  refine m_if_eq (tgt := 20) C dX12_bits_5 (by decide) (fun c => ?_) (fun c => ?_)
  · have h := h.1 c
    refine m_iload_n C dX12_bits_20 rfl ?_
    exact f_iret C R rfl dX12_bits_21 h
  · have h := h.2 c
    refine n_iinc (fun x1 => [some (vI a1), some (vI x1), some (vI l2)]) C dX12_bits_8 rfl (by decide) (fun _ => rfl) (fun x1 ex1 => ?_)
    have h := h x1 ex1
    refine m_iload_n C dX12_bits_11 rfl ?_
    refine m_iload_n C dX12_bits_12 rfl ?_
    refine m_iconst C dX12_bits_13 (by unfold in32; omega) ?_
    refine m_isub C dX12_bits_14 ?_
    refine m_iand C dX12_bits_15 ?_
    refine n_istore_n (fun x2 => [some (vI a1), some (vI x1), some (vI x2)]) C dX12_bits_16 (by decide) (fun _ => rfl) (fun x2 ex2 => ?_)
    have h := h x2 ex2
    refine m_goto (tgt := 4) C dX12_bits_17 (by decide) ?_
    exact h

set_option maxRecDepth 20000 in
theorem VX12_writesDown_0 {G : m_G} {X : m_X} {d : Nat} {K : m_M → Prop} (C : mC G X YX12_writesDown (d + 1)) (R : r_v G X K) {μ : m_M} {a1 : Int} {a2 : Int} {a3 : Int} {a4 : Int}
    (h : (0 ≤ a1 ∧ a1 < 22) ∧ ((¬ (μ 34 51 a1.toNat) = 40) → mW G X YX12_writesDown μ 66 [some (vR 34 0), some (vI a1), some (vI a2), some (vI a3), some (vI a4), none] []) ∧ ((μ 34 51 a1.toNat = 40) → ∀ x1 : Int, x1 = w32 (160 * a1) → mW G X YX12_writesDown μ 18 [some (vR 34 0), some (vI a1), some (vI a2), some (vI a3), some (vI a4), some (vI x1)] [])) :
    mW G X YX12_writesDown μ 0 [some (vR 34 0), some (vI a1), some (vI a2), some (vI a3), some (vI a4), none] [] := by
  refine m_aload_n C dX12_writesDown_0 rfl ?_
  refine f_getA C dX12_writesDown_1 fl_KilnBenchModel_165 rfl (by decide) (by decide) (by decide) (by decide) ?_
  refine m_iload_n C dX12_writesDown_4 rfl ?_
  obtain ⟨hb, h⟩ := h
  refine f_iald C dX12_writesDown_5 (m_arO (a := 0) (len := 22) rfl rfl) (by decide) hb ?_
  refine m_bipush C dX12_writesDown_6 (by omega) ?_
  refine m_icmp_ne (tgt := 66) C dX12_writesDown_8 (by decide) (fun c => ?_) (fun c => ?_)
  · have h := h.1 c
    exact h
  · have h := h.2 c
    refine m_sipush C dX12_writesDown_11 (by omega) ?_
    refine m_iload_n C dX12_writesDown_14 rfl ?_
    refine m_imul C dX12_writesDown_15 ?_
    refine n_istore (fun x1 => [some (vR 34 0), some (vI a1), some (vI a2), some (vI a3), some (vI a4), some (vI x1)]) C dX12_writesDown_16 (by decide) (fun _ => rfl) (fun x1 ex1 => ?_)
    have h := h x1 ex1
    exact h

set_option maxRecDepth 20000 in
theorem VX12_writesDown_18 {G : m_G} {X : m_X} {d : Nat} {K : m_M → Prop} (C : mC G X YX12_writesDown (d + 1)) (R : r_v G X K) {μ : m_M} {a1 : Int} {a2 : Int} {a3 : Int} {a4 : Int} {l5 : Int}
    (h : ((w32 ((w32 ((w32 (160 * a1)) + 160)) - 4) ≤ l5) → (0 ≤ a1 ∧ a1 < 22) ∧ (0 ≤ a1 ∧ a1 < 22) ∧ ∀ μ1 : m_M, μ1 = m_up μ 34 51 a1.toNat (w32 ((μ 34 51 a1.toNat) - 1)) → mW G X YX12_writesDown μ1 66 [some (vR 34 0), some (vI a1), some (vI a2), some (vI a3), some (vI a4), none] []) ∧ ((¬ w32 ((w32 ((w32 (160 * a1)) + 160)) - 4) ≤ l5) → (0 ≤ w32 (l5 + 4) ∧ w32 (l5 + 4) < 3520) ∧ (0 ≤ l5 ∧ l5 < 3520) ∧ ∀ μ2 : m_M, μ2 = m_up μ 34 52 l5.toNat (μ 34 52 (w32 (l5 + 4)).toNat) → ∀ x3 : Int, x3 = w32 (l5 + 1) → mW G X YX12_writesDown μ2 18 [some (vR 34 0), some (vI a1), some (vI a2), some (vI a3), some (vI a4), some (vI x3)] [])) :
    mW G X YX12_writesDown μ 18 [some (vR 34 0), some (vI a1), some (vI a2), some (vI a3), some (vI a4), some (vI l5)] [] := by
  refine m_iload C dX12_writesDown_18 rfl ?_
  refine m_sipush C dX12_writesDown_20 (by omega) ?_
  refine m_iload_n C dX12_writesDown_23 rfl ?_
  refine m_imul C dX12_writesDown_24 ?_
  refine m_sipush C dX12_writesDown_25 (by omega) ?_
  refine m_iadd C dX12_writesDown_28 ?_
  refine m_iconst C dX12_writesDown_29 (by unfold in32; omega) ?_
  refine m_isub C dX12_writesDown_30 ?_
  refine m_icmp_ge (tgt := 56) C dX12_writesDown_31 (by decide) (fun c => ?_) (fun c => ?_)
  · have h := h.1 c
    refine m_aload_n C dX12_writesDown_56 rfl ?_
    refine f_getA C dX12_writesDown_57 fl_KilnBenchModel_165 rfl (by decide) (by decide) (by decide) (by decide) ?_
    refine m_iload_n C dX12_writesDown_60 rfl ?_
    refine m_dup2 C dX12_writesDown_61 rfl rfl ?_
    obtain ⟨hb, h⟩ := h
    refine f_iald C dX12_writesDown_62 (m_arO (a := 0) (len := 22) rfl rfl) (by decide) hb ?_
    refine m_iconst C dX12_writesDown_63 (by unfold in32; omega) ?_
    refine m_isub C dX12_writesDown_64 ?_
    obtain ⟨hb, h⟩ := h
    refine f_iast C dX12_writesDown_65 (m_arO (a := 0) (len := 22) rfl rfl) (by decide) hb ?_
    refine n_mem (fun μ1 eμ1 => ?_)
    have h := h μ1 eμ1
    exact n_weak (le_same (le_same (le_same (le_same (le_same (le_none le_nil)))))) h
  · have h := h.2 c
    refine m_aload_n C dX12_writesDown_34 rfl ?_
    refine f_getA C dX12_writesDown_35 fl_KilnBenchModel_168 rfl (by decide) (by decide) (by decide) (by decide) ?_
    refine m_iload C dX12_writesDown_38 rfl ?_
    refine m_aload_n C dX12_writesDown_40 rfl ?_
    refine f_getA C dX12_writesDown_41 fl_KilnBenchModel_168 rfl (by decide) (by decide) (by decide) (by decide) ?_
    refine m_iload C dX12_writesDown_44 rfl ?_
    refine m_iconst C dX12_writesDown_46 (by unfold in32; omega) ?_
    refine m_iadd C dX12_writesDown_47 ?_
    obtain ⟨hb, h⟩ := h
    refine f_iald C dX12_writesDown_48 (m_arO (a := 0) (len := 3520) rfl rfl) (by decide) hb ?_
    obtain ⟨hb, h⟩ := h
    refine f_iast C dX12_writesDown_49 (m_arO (a := 0) (len := 3520) rfl rfl) (by decide) hb ?_
    refine n_mem (fun μ2 eμ2 => ?_)
    have h := h μ2 eμ2
    refine n_iinc (fun x3 => [some (vR 34 0), some (vI a1), some (vI a2), some (vI a3), some (vI a4), some (vI x3)]) C dX12_writesDown_50 rfl (by decide) (fun _ => rfl) (fun x3 ex3 => ?_)
    have h := h x3 ex3
    refine m_goto (tgt := 18) C dX12_writesDown_53 (by decide) ?_
    exact h

set_option maxRecDepth 20000 in
theorem VX12_writesDown_66 {G : m_G} {X : m_X} {d : Nat} {K : m_M → Prop} (C : mC G X YX12_writesDown (d + 1)) (R : r_v G X K) {μ : m_M} {a1 : Int} {a2 : Int} {a3 : Int} {a4 : Int}
    (h : (0 ≤ a1 ∧ a1 < 22) ∧ ∀ x1 : Int, x1 = w32 (4 * (w32 ((w32 (40 * a1)) + (μ 34 51 a1.toNat)))) → (0 ≤ a1 ∧ a1 < 22) ∧ (0 ≤ x1 ∧ x1 < 3520) ∧ ∀ μ2 : m_M, μ2 = m_up μ 34 52 x1.toNat (μ 34 43 a1.toNat) → (0 ≤ w32 (x1 + 1) ∧ w32 (x1 + 1) < 3520) ∧ ∀ μ3 : m_M, μ3 = m_up μ2 34 52 (w32 (x1 + 1)).toNat a2 → (0 ≤ w32 (x1 + 2) ∧ w32 (x1 + 2) < 3520) ∧ ∀ μ4 : m_M, μ4 = m_up μ3 34 52 (w32 (x1 + 2)).toNat a3 → (0 ≤ w32 (x1 + 3) ∧ w32 (x1 + 3) < 3520) ∧ ∀ μ5 : m_M, μ5 = m_up μ4 34 52 (w32 (x1 + 3)).toNat a4 → (0 ≤ a1 ∧ a1 < 22) ∧ (0 ≤ a1 ∧ a1 < 22) ∧ ∀ μ6 : m_M, μ6 = m_up μ5 34 51 a1.toNat (w32 ((μ5 34 51 a1.toNat) + 1)) → K μ6) :
    mW G X YX12_writesDown μ 66 [some (vR 34 0), some (vI a1), some (vI a2), some (vI a3), some (vI a4), none] [] := by
  refine m_iconst C dX12_writesDown_66 (by unfold in32; omega) ?_
  refine m_bipush C dX12_writesDown_67 (by omega) ?_
  refine m_iload_n C dX12_writesDown_69 rfl ?_
  refine m_imul C dX12_writesDown_70 ?_
  refine m_aload_n C dX12_writesDown_71 rfl ?_
  refine f_getA C dX12_writesDown_72 fl_KilnBenchModel_165 rfl (by decide) (by decide) (by decide) (by decide) ?_
  refine m_iload_n C dX12_writesDown_75 rfl ?_
  obtain ⟨hb, h⟩ := h
  refine f_iald C dX12_writesDown_76 (m_arO (a := 0) (len := 22) rfl rfl) (by decide) hb ?_
  refine m_iadd C dX12_writesDown_77 ?_
  refine m_imul C dX12_writesDown_78 ?_
  refine n_istore (fun x1 => [some (vR 34 0), some (vI a1), some (vI a2), some (vI a3), some (vI a4), some (vI x1)]) C dX12_writesDown_79 (by decide) (fun _ => rfl) (fun x1 ex1 => ?_)
  have h := h x1 ex1
  refine m_aload_n C dX12_writesDown_81 rfl ?_
  refine f_getA C dX12_writesDown_82 fl_KilnBenchModel_168 rfl (by decide) (by decide) (by decide) (by decide) ?_
  refine m_iload C dX12_writesDown_85 rfl ?_
  refine m_aload_n C dX12_writesDown_87 rfl ?_
  refine f_getA C dX12_writesDown_88 fl_KilnBenchModel_141 rfl (by decide) (by decide) (by decide) (by decide) ?_
  refine m_iload_n C dX12_writesDown_91 rfl ?_
  obtain ⟨hb, h⟩ := h
  refine f_iald C dX12_writesDown_92 (m_arO (a := 0) (len := 22) rfl rfl) (by decide) hb ?_
  obtain ⟨hb, h⟩ := h
  refine f_iast C dX12_writesDown_93 (m_arO (a := 0) (len := 3520) rfl rfl) (by decide) hb ?_
  refine n_mem (fun μ2 eμ2 => ?_)
  have h := h μ2 eμ2
  refine m_aload_n C dX12_writesDown_94 rfl ?_
  refine f_getA C dX12_writesDown_95 fl_KilnBenchModel_168 rfl (by decide) (by decide) (by decide) (by decide) ?_
  refine m_iload C dX12_writesDown_98 rfl ?_
  refine m_iconst C dX12_writesDown_100 (by unfold in32; omega) ?_
  refine m_iadd C dX12_writesDown_101 ?_
  refine m_iload_n C dX12_writesDown_102 rfl ?_
  obtain ⟨hb, h⟩ := h
  refine f_iast C dX12_writesDown_103 (m_arO (a := 0) (len := 3520) rfl rfl) (by decide) hb ?_
  refine n_mem (fun μ3 eμ3 => ?_)
  have h := h μ3 eμ3
  refine m_aload_n C dX12_writesDown_104 rfl ?_
  refine f_getA C dX12_writesDown_105 fl_KilnBenchModel_168 rfl (by decide) (by decide) (by decide) (by decide) ?_
  refine m_iload C dX12_writesDown_108 rfl ?_
  refine m_iconst C dX12_writesDown_110 (by unfold in32; omega) ?_
  refine m_iadd C dX12_writesDown_111 ?_
  refine m_iload_n C dX12_writesDown_112 rfl ?_
  obtain ⟨hb, h⟩ := h
  refine f_iast C dX12_writesDown_113 (m_arO (a := 0) (len := 3520) rfl rfl) (by decide) hb ?_
  refine n_mem (fun μ4 eμ4 => ?_)
  have h := h μ4 eμ4
  refine m_aload_n C dX12_writesDown_114 rfl ?_
  refine f_getA C dX12_writesDown_115 fl_KilnBenchModel_168 rfl (by decide) (by decide) (by decide) (by decide) ?_
  refine m_iload C dX12_writesDown_118 rfl ?_
  refine m_iconst C dX12_writesDown_120 (by unfold in32; omega) ?_
  refine m_iadd C dX12_writesDown_121 ?_
  refine m_iload C dX12_writesDown_122 rfl ?_
  obtain ⟨hb, h⟩ := h
  refine f_iast C dX12_writesDown_124 (m_arO (a := 0) (len := 3520) rfl rfl) (by decide) hb ?_
  refine n_mem (fun μ5 eμ5 => ?_)
  have h := h μ5 eμ5
  refine m_aload_n C dX12_writesDown_125 rfl ?_
  refine f_getA C dX12_writesDown_126 fl_KilnBenchModel_165 rfl (by decide) (by decide) (by decide) (by decide) ?_
  refine m_iload_n C dX12_writesDown_129 rfl ?_
  refine m_dup2 C dX12_writesDown_130 rfl rfl ?_
  obtain ⟨hb, h⟩ := h
  refine f_iald C dX12_writesDown_131 (m_arO (a := 0) (len := 22) rfl rfl) (by decide) hb ?_
  refine m_iconst C dX12_writesDown_132 (by unfold in32; omega) ?_
  refine m_iadd C dX12_writesDown_133 ?_
  obtain ⟨hb, h⟩ := h
  refine f_iast C dX12_writesDown_134 (m_arO (a := 0) (len := 22) rfl rfl) (by decide) hb ?_
  refine n_mem (fun μ6 eμ6 => ?_)
  have h := h μ6 eμ6
  exact f_vret C R rfl dX12_writesDown_135 h

set_option maxRecDepth 20000 in
theorem VX12_fires_0 {G : m_G} {X : m_X} {d : Nat} {K : m_M → Prop} (C : mC G X YX12_fires (d + 1)) (R : r_v G X K) {μ : m_M} {a1 : Int} {a2 : Int} {a3 : Int}
    (h : mW G X YX12_fires μ 6 [some (vR 34 0), some (vI a1), some (vI a2), some (vI a3), some (vI 0), some (vI 0), none, none] []) :
    mW G X YX12_fires μ 0 [some (vR 34 0), some (vI a1), some (vI a2), some (vI a3), none, none, none, none] [] := by
  refine m_iconst C dX12_fires_0 (by unfold in32; omega) ?_
  refine o_istore [some (vR 34 0), some (vI a1), some (vI a2), some (vI a3), some (vI 0), none, none, none] C dX12_fires_1 (by decide) rfl ?_
  refine m_iconst C dX12_fires_3 (by unfold in32; omega) ?_
  refine o_istore [some (vR 34 0), some (vI a1), some (vI a2), some (vI a3), some (vI 0), some (vI 0), none, none] C dX12_fires_4 (by decide) rfl ?_
  exact h

set_option maxRecDepth 20000 in
theorem VX12_fires_6 {G : m_G} {X : m_X} {d : Nat} {K : m_M → Prop} (C : mC G X YX12_fires (d + 1)) (R : r_v G X K) {μ : m_M} {a1 : Int} {a2 : Int} {a3 : Int} {l4 : Int} {l5 : Int}
    (h : ((6 ≤ l5) → mW G X YX12_fires μ 166 [some (vR 34 0), some (vI a1), some (vI a2), some (vI a3), some (vI l4), some (vI 0), none, none] []) ∧ ((¬ 6 ≤ l5) → c_i G d YX12_inPlace [vR 34 0, vI a1, vI a2, vI l5] μ (fun r3 μ2 => c_i G d YX12_inPlace [vR 34 0, vI a1, vI a2, vI (w32 (l5 + 1))] μ2 (fun r6 μ5 => ((¬ r3 = (-1)) → c_i G d YX12_ring [vR 34 0, vI a1, vI r3, vI a3, vI l5] μ5 (fun r9 μ8 => (0 ≤ w32 ((w32 (8 * a1)) + r3) ∧ w32 ((w32 (8 * a1)) + r3) < 176) ∧ ∀ μ10 : m_M, μ10 = m_up μ8 34 47 (w32 ((w32 (8 * a1)) + r3)).toNat r9 → c_i G d YX12_isCracking [vR 34 0, vI a1, vI r3, vI a3, vI l5] μ10 (fun r12 μ11 => ((r12 = 0) → mW G X YX12_fires μ11 95 [some (vR 34 0), some (vI a1), some (vI a2), some (vI a3), some (vI l4), some (vI l5), some (vI r3), some (vI r6)] []) ∧ ((¬ r12 = 0) → (0 ≤ a1 ∧ a1 < 22) ∧ (0 ≤ a1 ∧ a1 < 22) ∧ ∀ μ13 : m_M, μ13 = m_up μ11 34 49 a1.toNat (i_or (μ11 34 49 a1.toNat) (i_shl 1 r3)) → ∀ x14 : Int, x14 = w32 (l4 + 1) → mW G X YX12_fires μ13 95 [some (vR 34 0), some (vI a1), some (vI a2), some (vI a3), some (vI x14), some (vI l5), some (vI r3), some (vI r6)] [])))) ∧ ((r3 = (-1)) → ∀ x15 : Int, x15 = w32 (l5 + 1) → mW G X YX12_fires μ5 6 [some (vR 34 0), some (vI a1), some (vI a2), some (vI a3), some (vI l4), some (vI x15), none, none] []))))) :
    mW G X YX12_fires μ 6 [some (vR 34 0), some (vI a1), some (vI a2), some (vI a3), some (vI l4), some (vI l5), none, none] [] := by
  refine m_iload C dX12_fires_6 rfl ?_
  refine m_bipush C dX12_fires_8 (by omega) ?_
  refine m_icmp_ge (tgt := 163) C dX12_fires_10 (by decide) (fun c => ?_) (fun c => ?_)
  · have h := h.1 c
    refine m_iconst C dX12_fires_163 (by unfold in32; omega) ?_
    refine o_istore [some (vR 34 0), some (vI a1), some (vI a2), some (vI a3), some (vI l4), some (vI 0), none, none] C dX12_fires_164 (by decide) rfl ?_
    exact h
  · have h := h.2 c
    refine m_aload_n C dX12_fires_13 rfl ?_
    refine m_iload_n C dX12_fires_14 rfl ?_
    refine m_iload_n C dX12_fires_15 rfl ?_
    refine m_iload C dX12_fires_16 rfl ?_
    refine f_callVi (As := [vI a1, vI a2, vI l5]) (st := []) C dX12_fires_18 ml_KilnBenchModel_425 rfl (by decide) rfl rfl rfl (Nat.le_of_ble_eq_true rfl) h (fun r3 μ2 h => ?_)
    refine o_istore [some (vR 34 0), some (vI a1), some (vI a2), some (vI a3), some (vI l4), some (vI l5), some (vI r3), none] C dX12_fires_21 (by decide) rfl ?_
    refine m_aload_n C dX12_fires_23 rfl ?_
    refine m_iload_n C dX12_fires_24 rfl ?_
    refine m_iload_n C dX12_fires_25 rfl ?_
    refine m_iload C dX12_fires_26 rfl ?_
    refine m_iconst C dX12_fires_28 (by unfold in32; omega) ?_
    refine m_iadd C dX12_fires_29 ?_
    refine f_callVi (As := [vI a1, vI a2, vI (w32 (l5 + 1))]) (st := []) C dX12_fires_30 ml_KilnBenchModel_425 rfl (by decide) rfl rfl rfl (Nat.le_of_ble_eq_true rfl) h (fun r6 μ5 h => ?_)
    refine o_istore [some (vR 34 0), some (vI a1), some (vI a2), some (vI a3), some (vI l4), some (vI l5), some (vI r3), some (vI r6)] C dX12_fires_33 (by decide) rfl ?_
    refine m_iload C dX12_fires_35 rfl ?_
    refine m_iconst C dX12_fires_37 (by unfold in32; omega) ?_
    refine m_icmp_ne (tgt := 44) C dX12_fires_38 (by decide) (fun c => ?_) (fun c => ?_)
    · have h := h.1 c
      refine m_aload_n C dX12_fires_44 rfl ?_
      refine f_getA C dX12_fires_45 fl_KilnBenchModel_153 rfl (by decide) (by decide) (by decide) (by decide) ?_
      refine m_bipush C dX12_fires_48 (by omega) ?_
      refine m_iload_n C dX12_fires_50 rfl ?_
      refine m_imul C dX12_fires_51 ?_
      refine m_iload C dX12_fires_52 rfl ?_
      refine m_iadd C dX12_fires_54 ?_
      refine m_aload_n C dX12_fires_55 rfl ?_
      refine m_iload_n C dX12_fires_56 rfl ?_
      refine m_iload C dX12_fires_57 rfl ?_
      refine m_iload_n C dX12_fires_59 rfl ?_
      refine m_iload C dX12_fires_60 rfl ?_
      refine f_callVi (As := [vI a1, vI r3, vI a3, vI l5]) (st := [vI (w32 ((w32 (8 * a1)) + r3)), vR 34 47]) C dX12_fires_62 ml_KilnBenchModel_418 rfl (by decide) rfl rfl rfl (Nat.le_of_ble_eq_true rfl) h (fun r9 μ8 h => ?_)
      obtain ⟨hb, h⟩ := h
      refine f_iast C dX12_fires_65 (m_arO (a := 0) (len := 176) rfl rfl) (by decide) hb ?_
      refine n_mem (fun μ10 eμ10 => ?_)
      have h := h μ10 eμ10
      refine m_aload_n C dX12_fires_66 rfl ?_
      refine m_iload_n C dX12_fires_67 rfl ?_
      refine m_iload C dX12_fires_68 rfl ?_
      refine m_iload_n C dX12_fires_70 rfl ?_
      refine m_iload C dX12_fires_71 rfl ?_
      refine f_callVi (As := [vI a1, vI r3, vI a3, vI l5]) (st := []) C dX12_fires_73 ml_KilnBenchModel_429 rfl (by decide) rfl rfl rfl (Nat.le_of_ble_eq_true rfl) h (fun r12 μ11 h => ?_)
      refine m_if_eq (tgt := 95) C dX12_fires_76 (by decide) (fun c => ?_) (fun c => ?_)
      · have h := h.1 c
        exact h
      · have h := h.2 c
        refine m_aload_n C dX12_fires_79 rfl ?_
        refine f_getA C dX12_fires_80 fl_KilnBenchModel_159 rfl (by decide) (by decide) (by decide) (by decide) ?_
        refine m_iload_n C dX12_fires_83 rfl ?_
        refine m_dup2 C dX12_fires_84 rfl rfl ?_
        obtain ⟨hb, h⟩ := h
        refine f_iald C dX12_fires_85 (m_arO (a := 0) (len := 22) rfl rfl) (by decide) hb ?_
        refine m_iconst C dX12_fires_86 (by unfold in32; omega) ?_
        refine m_iload C dX12_fires_87 rfl ?_
        refine m_ishl C dX12_fires_89 ?_
        refine m_ior C dX12_fires_90 ?_
        obtain ⟨hb, h⟩ := h
        refine f_iast C dX12_fires_91 (m_arO (a := 0) (len := 22) rfl rfl) (by decide) hb ?_
        refine n_mem (fun μ13 eμ13 => ?_)
        have h := h μ13 eμ13
        refine n_iinc (fun x14 => [some (vR 34 0), some (vI a1), some (vI a2), some (vI a3), some (vI x14), some (vI l5), some (vI r3), some (vI r6)]) C dX12_fires_92 rfl (by decide) (fun _ => rfl) (fun x14 ex14 => ?_)
        have h := h x14 ex14
        exact h
    · have h := h.2 c
      refine m_goto (tgt := 157) C dX12_fires_41 (by decide) ?_
      refine n_iinc (fun x15 => [some (vR 34 0), some (vI a1), some (vI a2), some (vI a3), some (vI l4), some (vI x15), some (vI r3), some (vI r6)]) C dX12_fires_157 rfl (by decide) (fun _ => rfl) (fun x15 ex15 => ?_)
      have h := h x15 ex15
      refine m_goto (tgt := 6) C dX12_fires_160 (by decide) ?_
      exact n_weak (le_same (le_same (le_same (le_same (le_same (le_same (le_none (le_none le_nil)))))))) h

set_option maxRecDepth 20000 in
theorem VX12_fires_95 {G : m_G} {X : m_X} {d : Nat} {K : m_M → Prop} (C : mC G X YX12_fires (d + 1)) (R : r_v G X K) {μ : m_M} {a1 : Int} {a2 : Int} {a3 : Int} {l4 : Int} {l5 : Int} {l6 : Int} {l7 : Int}
    (h : ((l7 = (-1)) → ∀ x1 : Int, x1 = w32 (l5 + 1) → mW G X YX12_fires μ 6 [some (vR 34 0), some (vI a1), some (vI a2), some (vI a3), some (vI l4), some (vI x1), none, none] []) ∧ ((¬ l7 = (-1)) → c_i G d YX12_isSticking [vR 34 0, vI a1, vI l6, vI l7, vI a3, vI l5] μ (fun r3 μ2 => ((¬ r3 = 0) → (0 ≤ w32 ((w32 (8 * a1)) + l6) ∧ w32 ((w32 (8 * a1)) + l6) < 176) ∧ (0 ≤ w32 ((w32 (8 * a1)) + l6) ∧ w32 ((w32 (8 * a1)) + l6) < 176) ∧ ∀ μ4 : m_M, μ4 = m_up μ2 34 48 (w32 ((w32 (8 * a1)) + l6)).toNat (i_or (μ2 34 48 (w32 ((w32 (8 * a1)) + l6)).toNat) (i_shl 1 l7)) → (0 ≤ w32 ((w32 (8 * a1)) + l7) ∧ w32 ((w32 (8 * a1)) + l7) < 176) ∧ (0 ≤ w32 ((w32 (8 * a1)) + l7) ∧ w32 ((w32 (8 * a1)) + l7) < 176) ∧ ∀ μ5 : m_M, μ5 = m_up μ4 34 48 (w32 ((w32 (8 * a1)) + l7)).toNat (i_or (μ4 34 48 (w32 ((w32 (8 * a1)) + l7)).toNat) (i_shl 1 l6)) → ∀ x6 : Int, x6 = w32 (l5 + 1) → mW G X YX12_fires μ5 6 [some (vR 34 0), some (vI a1), some (vI a2), some (vI a3), some (vI l4), some (vI x6), none, none] []) ∧ ((r3 = 0) → ∀ x7 : Int, x7 = w32 (l5 + 1) → mW G X YX12_fires μ2 6 [some (vR 34 0), some (vI a1), some (vI a2), some (vI a3), some (vI l4), some (vI x7), none, none] [])))) :
    mW G X YX12_fires μ 95 [some (vR 34 0), some (vI a1), some (vI a2), some (vI a3), some (vI l4), some (vI l5), some (vI l6), some (vI l7)] [] := by
  refine m_iload C dX12_fires_95 rfl ?_
  refine m_iconst C dX12_fires_97 (by unfold in32; omega) ?_
  refine m_icmp_eq (tgt := 157) C dX12_fires_98 (by decide) (fun c => ?_) (fun c => ?_)
  · have h := h.1 c
    refine n_iinc (fun x1 => [some (vR 34 0), some (vI a1), some (vI a2), some (vI a3), some (vI l4), some (vI x1), some (vI l6), some (vI l7)]) C dX12_fires_157 rfl (by decide) (fun _ => rfl) (fun x1 ex1 => ?_)
    have h := h x1 ex1
    refine m_goto (tgt := 6) C dX12_fires_160 (by decide) ?_
    exact n_weak (le_same (le_same (le_same (le_same (le_same (le_same (le_none (le_none le_nil)))))))) h
  · have h := h.2 c
    refine m_aload_n C dX12_fires_101 rfl ?_
    refine m_iload_n C dX12_fires_102 rfl ?_
    refine m_iload C dX12_fires_103 rfl ?_
    refine m_iload C dX12_fires_105 rfl ?_
    refine m_iload_n C dX12_fires_107 rfl ?_
    refine m_iload C dX12_fires_108 rfl ?_
    refine f_callVi (As := [vI a1, vI l6, vI l7, vI a3, vI l5]) (st := []) C dX12_fires_110 ml_KilnBenchModel_433 rfl (by decide) rfl rfl rfl (Nat.le_of_ble_eq_true rfl) h (fun r3 μ2 h => ?_)
    refine m_if_ne (tgt := 119) C dX12_fires_113 (by decide) (fun c => ?_) (fun c => ?_)
    · have h := h.1 c
      refine m_aload_n C dX12_fires_119 rfl ?_
      refine f_getA C dX12_fires_120 fl_KilnBenchModel_156 rfl (by decide) (by decide) (by decide) (by decide) ?_
      refine m_bipush C dX12_fires_123 (by omega) ?_
      refine m_iload_n C dX12_fires_125 rfl ?_
      refine m_imul C dX12_fires_126 ?_
      refine m_iload C dX12_fires_127 rfl ?_
      refine m_iadd C dX12_fires_129 ?_
      refine m_dup2 C dX12_fires_130 rfl rfl ?_
      obtain ⟨hb, h⟩ := h
      refine f_iald C dX12_fires_131 (m_arO (a := 0) (len := 176) rfl rfl) (by decide) hb ?_
      refine m_iconst C dX12_fires_132 (by unfold in32; omega) ?_
      refine m_iload C dX12_fires_133 rfl ?_
      refine m_ishl C dX12_fires_135 ?_
      refine m_ior C dX12_fires_136 ?_
      obtain ⟨hb, h⟩ := h
      refine f_iast C dX12_fires_137 (m_arO (a := 0) (len := 176) rfl rfl) (by decide) hb ?_
      refine n_mem (fun μ4 eμ4 => ?_)
      have h := h μ4 eμ4
      refine m_aload_n C dX12_fires_138 rfl ?_
      refine f_getA C dX12_fires_139 fl_KilnBenchModel_156 rfl (by decide) (by decide) (by decide) (by decide) ?_
      refine m_bipush C dX12_fires_142 (by omega) ?_
      refine m_iload_n C dX12_fires_144 rfl ?_
      refine m_imul C dX12_fires_145 ?_
      refine m_iload C dX12_fires_146 rfl ?_
      refine m_iadd C dX12_fires_148 ?_
      refine m_dup2 C dX12_fires_149 rfl rfl ?_
      obtain ⟨hb, h⟩ := h
      refine f_iald C dX12_fires_150 (m_arO (a := 0) (len := 176) rfl rfl) (by decide) hb ?_
      refine m_iconst C dX12_fires_151 (by unfold in32; omega) ?_
      refine m_iload C dX12_fires_152 rfl ?_
      refine m_ishl C dX12_fires_154 ?_
      refine m_ior C dX12_fires_155 ?_
      obtain ⟨hb, h⟩ := h
      refine f_iast C dX12_fires_156 (m_arO (a := 0) (len := 176) rfl rfl) (by decide) hb ?_
      refine n_mem (fun μ5 eμ5 => ?_)
      have h := h μ5 eμ5
      refine n_iinc (fun x6 => [some (vR 34 0), some (vI a1), some (vI a2), some (vI a3), some (vI l4), some (vI x6), some (vI l6), some (vI l7)]) C dX12_fires_157 rfl (by decide) (fun _ => rfl) (fun x6 ex6 => ?_)
      have h := h x6 ex6
      refine m_goto (tgt := 6) C dX12_fires_160 (by decide) ?_
      exact n_weak (le_same (le_same (le_same (le_same (le_same (le_same (le_none (le_none le_nil)))))))) h
    · have h := h.2 c
      refine m_goto (tgt := 157) C dX12_fires_116 (by decide) ?_
      refine n_iinc (fun x7 => [some (vR 34 0), some (vI a1), some (vI a2), some (vI a3), some (vI l4), some (vI x7), some (vI l6), some (vI l7)]) C dX12_fires_157 rfl (by decide) (fun _ => rfl) (fun x7 ex7 => ?_)
      have h := h x7 ex7
      refine m_goto (tgt := 6) C dX12_fires_160 (by decide) ?_
      exact n_weak (le_same (le_same (le_same (le_same (le_same (le_same (le_none (le_none le_nil)))))))) h

set_option maxRecDepth 20000 in
theorem VX12_fires_166 {G : m_G} {X : m_X} {d : Nat} {K : m_M → Prop} (C : mC G X YX12_fires (d + 1)) (R : r_v G X K) {μ : m_M} {a1 : Int} {a2 : Int} {a3 : Int} {l4 : Int} {l5 : Int}
    (h : (0 ≤ μ 34 0 13 ∧ μ 34 0 13 < 2) ∧ ((μ 34 15 (μ 34 0 13).toNat ≤ l5) → (0 ≤ w32 ((w32 (3 * a1)) + a2) ∧ w32 ((w32 (3 * a1)) + a2) < 66) ∧ ∀ μ1 : m_M, μ1 = m_up μ 34 50 (w32 ((w32 (3 * a1)) + a2)).toNat (-1) → c_v G d YX12_writesDown [vR 34 0, vI a1, vI a2, vI a3, vI l4] μ1 (fun μ2 => K μ2)) ∧ ((¬ μ 34 15 (μ 34 0 13).toNat ≤ l5) → (0 ≤ w32 ((w32 (8 * a1)) + l5) ∧ w32 ((w32 (8 * a1)) + l5) < 176) ∧ ((μ 34 45 (w32 ((w32 (8 * a1)) + l5)).toNat = a2) → (0 ≤ w32 ((w32 (8 * a1)) + l5) ∧ w32 ((w32 (8 * a1)) + l5) < 176) ∧ ∀ μ3 : m_M, μ3 = m_up μ 34 45 (w32 ((w32 (8 * a1)) + l5)).toNat (-1) → (0 ≤ w32 ((w32 (8 * a1)) + l5) ∧ w32 ((w32 (8 * a1)) + l5) < 176) ∧ ∀ μ4 : m_M, μ4 = m_up μ3 34 46 (w32 ((w32 (8 * a1)) + l5)).toNat (-1) → ∀ x5 : Int, x5 = w32 (l5 + 1) → mW G X YX12_fires μ4 166 [some (vR 34 0), some (vI a1), some (vI a2), some (vI a3), some (vI l4), some (vI x5), none, none] []) ∧ ((¬ μ 34 45 (w32 ((w32 (8 * a1)) + l5)).toNat = a2) → ∀ x6 : Int, x6 = w32 (l5 + 1) → mW G X YX12_fires μ 166 [some (vR 34 0), some (vI a1), some (vI a2), some (vI a3), some (vI l4), some (vI x6), none, none] []))) :
    mW G X YX12_fires μ 166 [some (vR 34 0), some (vI a1), some (vI a2), some (vI a3), some (vI l4), some (vI l5), none, none] [] := by
  refine m_iload C dX12_fires_166 rfl ?_
  refine m_aload_n C dX12_fires_168 rfl ?_
  refine f_getA C dX12_fires_169 fl_KilnBenchModel_54 rfl (by decide) (by decide) (by decide) (by decide) ?_
  refine m_aload_n C dX12_fires_172 rfl ?_
  refine f_getI C dX12_fires_173 fl_KilnBenchModel_51 rfl (by decide) (by decide) ?_
  obtain ⟨hb, h⟩ := h
  refine f_iald C dX12_fires_176 (m_arO (a := 0) (len := 2) rfl rfl) (by decide) hb ?_
  refine m_icmp_ge (tgt := 231) C dX12_fires_177 (by decide) (fun c => ?_) (fun c => ?_)
  · have h := h.1 c
    refine m_aload_n C dX12_fires_231 rfl ?_
    refine f_getA C dX12_fires_232 fl_KilnBenchModel_162 rfl (by decide) (by decide) (by decide) (by decide) ?_
    refine m_iconst C dX12_fires_235 (by unfold in32; omega) ?_
    refine m_iload_n C dX12_fires_236 rfl ?_
    refine m_imul C dX12_fires_237 ?_
    refine m_iload_n C dX12_fires_238 rfl ?_
    refine m_iadd C dX12_fires_239 ?_
    refine m_iconst C dX12_fires_240 (by unfold in32; omega) ?_
    obtain ⟨hb, h⟩ := h
    refine f_iast C dX12_fires_241 (m_arO (a := 0) (len := 66) rfl rfl) (by decide) hb ?_
    refine n_mem (fun μ1 eμ1 => ?_)
    have h := h μ1 eμ1
    refine m_aload_n C dX12_fires_242 rfl ?_
    refine m_iload_n C dX12_fires_243 rfl ?_
    refine m_iload_n C dX12_fires_244 rfl ?_
    refine m_iload_n C dX12_fires_245 rfl ?_
    refine m_iload C dX12_fires_246 rfl ?_
    refine f_callVv (As := [vI a1, vI a2, vI a3, vI l4]) (st := []) C dX12_fires_248 ml_KilnBenchModel_437 rfl (by decide) rfl rfl rfl (Nat.le_of_ble_eq_true rfl) h (fun μ2 h => ?_)
    exact f_vret C R rfl dX12_fires_251 h
  · have h := h.2 c
    refine m_aload_n C dX12_fires_180 rfl ?_
    refine f_getA C dX12_fires_181 fl_KilnBenchModel_147 rfl (by decide) (by decide) (by decide) (by decide) ?_
    refine m_bipush C dX12_fires_184 (by omega) ?_
    refine m_iload_n C dX12_fires_186 rfl ?_
    refine m_imul C dX12_fires_187 ?_
    refine m_iload C dX12_fires_188 rfl ?_
    refine m_iadd C dX12_fires_190 ?_
    obtain ⟨hb, h⟩ := h
    refine f_iald C dX12_fires_191 (m_arO (a := 0) (len := 176) rfl rfl) (by decide) hb ?_
    refine m_iload_n C dX12_fires_192 rfl ?_
    refine m_icmp_eq (tgt := 199) C dX12_fires_193 (by decide) (fun c => ?_) (fun c => ?_)
    · have h := h.1 c
      refine m_aload_n C dX12_fires_199 rfl ?_
      refine f_getA C dX12_fires_200 fl_KilnBenchModel_147 rfl (by decide) (by decide) (by decide) (by decide) ?_
      refine m_bipush C dX12_fires_203 (by omega) ?_
      refine m_iload_n C dX12_fires_205 rfl ?_
      refine m_imul C dX12_fires_206 ?_
      refine m_iload C dX12_fires_207 rfl ?_
      refine m_iadd C dX12_fires_209 ?_
      refine m_iconst C dX12_fires_210 (by unfold in32; omega) ?_
      obtain ⟨hb, h⟩ := h
      refine f_iast C dX12_fires_211 (m_arO (a := 0) (len := 176) rfl rfl) (by decide) hb ?_
      refine n_mem (fun μ3 eμ3 => ?_)
      have h := h μ3 eμ3
      refine m_aload_n C dX12_fires_212 rfl ?_
      refine f_getA C dX12_fires_213 fl_KilnBenchModel_150 rfl (by decide) (by decide) (by decide) (by decide) ?_
      refine m_bipush C dX12_fires_216 (by omega) ?_
      refine m_iload_n C dX12_fires_218 rfl ?_
      refine m_imul C dX12_fires_219 ?_
      refine m_iload C dX12_fires_220 rfl ?_
      refine m_iadd C dX12_fires_222 ?_
      refine m_iconst C dX12_fires_223 (by unfold in32; omega) ?_
      obtain ⟨hb, h⟩ := h
      refine f_iast C dX12_fires_224 (m_arO (a := 0) (len := 176) rfl rfl) (by decide) hb ?_
      refine n_mem (fun μ4 eμ4 => ?_)
      have h := h μ4 eμ4
      refine n_iinc (fun x5 => [some (vR 34 0), some (vI a1), some (vI a2), some (vI a3), some (vI l4), some (vI x5), none, none]) C dX12_fires_225 rfl (by decide) (fun _ => rfl) (fun x5 ex5 => ?_)
      have h := h x5 ex5
      refine m_goto (tgt := 166) C dX12_fires_228 (by decide) ?_
      exact h
    · have h := h.2 c
      refine m_goto (tgt := 225) C dX12_fires_196 (by decide) ?_
      refine n_iinc (fun x6 => [some (vR 34 0), some (vI a1), some (vI a2), some (vI a3), some (vI l4), some (vI x6), none, none]) C dX12_fires_225 rfl (by decide) (fun _ => rfl) (fun x6 ex6 => ?_)
      have h := h x6 ex6
      refine m_goto (tgt := 166) C dX12_fires_228 (by decide) ?_
      exact h

set_option maxRecDepth 20000 in
theorem VX12_ticks_0 {G : m_G} {X : m_X} {d : Nat} {K : m_M → Prop} (C : mC G X YX12_ticks (d + 1)) (R : r_v G X K) {μ : m_M} {a1 : Int} {a2 : Int}
    (h : ∀ μ1 : m_M, μ1 = m_up μ 34 0 57 0 → (0 ≤ a1 ∧ a1 < 22) ∧ (0 ≤ μ1 34 0 13 ∧ μ1 34 0 13 < 2) ∧ ∀ x2 : Int, x2 = w32 ((μ1 34 44 a1.toNat) + (μ1 34 21 (μ1 34 0 13).toNat)) → ((x2 ≤ 9999) → (0 ≤ a1 ∧ a1 < 22) ∧ ∀ μ3 : m_M, μ3 = m_up μ1 34 44 a1.toNat x2 → mW G X YX12_ticks μ3 45 [some (vR 34 0), some (vI a1), some (vI a2), some (vI x2), some (vI 0), none] []) ∧ ((¬ x2 ≤ 9999) → (0 ≤ a1 ∧ a1 < 22) ∧ ∀ μ5 : m_M, μ5 = m_up μ1 34 44 a1.toNat 9999 → mW G X YX12_ticks μ5 45 [some (vR 34 0), some (vI a1), some (vI a2), some (vI x2), some (vI 0), none] [])) :
    mW G X YX12_ticks μ 0 [some (vR 34 0), some (vI a1), some (vI a2), none, none, none] [] := by
  refine m_aload_n C dX12_ticks_0 rfl ?_
  refine m_iconst C dX12_ticks_1 (by unfold in32; omega) ?_
  refine f_putI C dX12_ticks_2 fl_KilnBenchModel_186 rfl (by decide) (by decide) (by decide) ?_
  refine n_mem (fun μ1 eμ1 => ?_)
  have h := h μ1 eμ1
  refine m_aload_n C dX12_ticks_5 rfl ?_
  refine f_getA C dX12_ticks_6 fl_KilnBenchModel_144 rfl (by decide) (by decide) (by decide) (by decide) ?_
  refine m_iload_n C dX12_ticks_9 rfl ?_
  obtain ⟨hb, h⟩ := h
  refine f_iald C dX12_ticks_10 (m_arO (a := 0) (len := 22) rfl rfl) (by decide) hb ?_
  refine m_aload_n C dX12_ticks_11 rfl ?_
  refine f_getA C dX12_ticks_12 fl_KilnBenchModel_72 rfl (by decide) (by decide) (by decide) (by decide) ?_
  refine m_aload_n C dX12_ticks_15 rfl ?_
  refine f_getI C dX12_ticks_16 fl_KilnBenchModel_51 rfl (by decide) (by decide) ?_
  obtain ⟨hb, h⟩ := h
  refine f_iald C dX12_ticks_19 (m_arO (a := 0) (len := 2) rfl rfl) (by decide) hb ?_
  refine m_iadd C dX12_ticks_20 ?_
  refine n_istore_n (fun x2 => [some (vR 34 0), some (vI a1), some (vI a2), some (vI x2), none, none]) C dX12_ticks_21 (by decide) (fun _ => rfl) (fun x2 ex2 => ?_)
  have h := h x2 ex2
  refine m_aload_n C dX12_ticks_22 rfl ?_
  refine f_getA C dX12_ticks_23 fl_KilnBenchModel_144 rfl (by decide) (by decide) (by decide) (by decide) ?_
  refine m_iload_n C dX12_ticks_26 rfl ?_
  refine m_iload_n C dX12_ticks_27 rfl ?_
  refine m_sipush C dX12_ticks_28 (by omega) ?_
  refine m_icmp_le (tgt := 40) C dX12_ticks_31 (by decide) (fun c => ?_) (fun c => ?_)
  · have h := h.1 c
    refine m_iload_n C dX12_ticks_40 rfl ?_
    obtain ⟨hb, h⟩ := h
    refine f_iast C dX12_ticks_41 (m_arO (a := 0) (len := 22) rfl rfl) (by decide) hb ?_
    refine n_mem (fun μ3 eμ3 => ?_)
    have h := h μ3 eμ3
    refine m_iconst C dX12_ticks_42 (by unfold in32; omega) ?_
    refine o_istore [some (vR 34 0), some (vI a1), some (vI a2), some (vI x2), some (vI 0), none] C dX12_ticks_43 (by decide) rfl ?_
    exact h
  · have h := h.2 c
    refine m_sipush C dX12_ticks_34 (by omega) ?_
    refine m_goto (tgt := 41) C dX12_ticks_37 (by decide) ?_
    obtain ⟨hb, h⟩ := h
    refine f_iast C dX12_ticks_41 (m_arO (a := 0) (len := 22) rfl rfl) (by decide) hb ?_
    refine n_mem (fun μ5 eμ5 => ?_)
    have h := h μ5 eμ5
    refine m_iconst C dX12_ticks_42 (by unfold in32; omega) ?_
    refine o_istore [some (vR 34 0), some (vI a1), some (vI a2), some (vI x2), some (vI 0), none] C dX12_ticks_43 (by decide) rfl ?_
    exact h

set_option maxRecDepth 20000 in
theorem VX12_ticks_45 {G : m_G} {X : m_X} {d : Nat} {K : m_M → Prop} (C : mC G X YX12_ticks (d + 1)) (R : r_v G X K) {μ : m_M} {a1 : Int} {a2 : Int} {l3 : Int} {l4 : Int}
    (h : (0 ≤ μ 34 0 13 ∧ μ 34 0 13 < 2) ∧ ((μ 34 18 (μ 34 0 13).toNat ≤ l4) → (0 ≤ a1 ∧ a1 < 22) ∧ (0 ≤ a1 ∧ a1 < 22) ∧ ∀ μ1 : m_M, μ1 = m_up μ 34 43 a1.toNat (w32 ((μ 34 43 a1.toNat) + 1)) → K μ1) ∧ ((¬ μ 34 18 (μ 34 0 13).toNat ≤ l4) → (0 ≤ w32 ((w32 (3 * a1)) + l4) ∧ w32 ((w32 (3 * a1)) + l4) < 66) ∧ ((μ 34 50 (w32 ((w32 (3 * a1)) + l4)).toNat = (-1)) → ∀ x2 : Int, x2 = w32 (l4 + 1) → mW G X YX12_ticks μ 45 [some (vR 34 0), some (vI a1), some (vI a2), some (vI l3), some (vI x2), none] []) ∧ ((¬ μ 34 50 (w32 ((w32 (3 * a1)) + l4)).toNat = (-1)) → c_i G d YX12_full [vR 34 0, vI a1, vI l4] μ (fun r4 μ3 => ((r4 = 0) → ∀ x5 : Int, x5 = w32 (l4 + 1) → mW G X YX12_ticks μ3 45 [some (vR 34 0), some (vI a1), some (vI a2), some (vI l3), some (vI x5), none] []) ∧ ((¬ r4 = 0) → c_i G d YX12_burnt [vR 34 0, vI a1, vI l4] μ3 (fun r7 μ6 => (0 ≤ a1 ∧ a1 < 22) ∧ ((r7 ≤ μ6 34 44 a1.toNat) → (0 ≤ a1 ∧ a1 < 22) ∧ c_i G d YX12_burnt [vR 34 0, vI a1, vI l4] μ6 (fun r9 μ8 => (0 ≤ a1 ∧ a1 < 22) ∧ ∀ μ10 : m_M, μ10 = m_up μ8 34 44 a1.toNat (w32 ((μ6 34 44 a1.toNat) - r9)) → (0 ≤ w32 ((w32 (3 * a1)) + l4) ∧ w32 ((w32 (3 * a1)) + l4) < 66) ∧ ∀ x11 : Int, x11 = w32 ((μ10 34 50 (w32 ((w32 (3 * a1)) + l4)).toNat) + a2) → ((x11 ≤ 20) → c_v G d YX12_fires [vR 34 0, vI a1, vI l4, vI x11] μ10 (fun μ12 => ∀ μ13 : m_M, μ13 = m_up μ12 34 0 57 (i_or (μ12 34 0 57) (i_shl 1 l4)) → ∀ x14 : Int, x14 = w32 (l4 + 1) → mW G X YX12_ticks μ13 45 [some (vR 34 0), some (vI a1), some (vI a2), some (vI l3), some (vI x14), none] [])) ∧ ((¬ x11 ≤ 20) → c_v G d YX12_fires [vR 34 0, vI a1, vI l4, vI 20] μ10 (fun μ15 => ∀ μ16 : m_M, μ16 = m_up μ15 34 0 57 (i_or (μ15 34 0 57) (i_shl 1 l4)) → ∀ x17 : Int, x17 = w32 (l4 + 1) → mW G X YX12_ticks μ16 45 [some (vR 34 0), some (vI a1), some (vI a2), some (vI l3), some (vI x17), none] [])))) ∧ ((¬ r7 ≤ μ6 34 44 a1.toNat) → ∀ x18 : Int, x18 = w32 (l4 + 1) → mW G X YX12_ticks μ6 45 [some (vR 34 0), some (vI a1), some (vI a2), some (vI l3), some (vI x18), none] []))))))) :
    mW G X YX12_ticks μ 45 [some (vR 34 0), some (vI a1), some (vI a2), some (vI l3), some (vI l4), none] [] := by
  refine m_iload C dX12_ticks_45 rfl ?_
  refine m_aload_n C dX12_ticks_47 rfl ?_
  refine f_getA C dX12_ticks_48 fl_KilnBenchModel_63 rfl (by decide) (by decide) (by decide) (by decide) ?_
  refine m_aload_n C dX12_ticks_51 rfl ?_
  refine f_getI C dX12_ticks_52 fl_KilnBenchModel_51 rfl (by decide) (by decide) ?_
  obtain ⟨hb, h⟩ := h
  refine f_iald C dX12_ticks_55 (m_arO (a := 0) (len := 2) rfl rfl) (by decide) hb ?_
  refine m_icmp_ge (tgt := 174) C dX12_ticks_56 (by decide) (fun c => ?_) (fun c => ?_)
  · have h := h.1 c
    refine m_aload_n C dX12_ticks_174 rfl ?_
    refine f_getA C dX12_ticks_175 fl_KilnBenchModel_141 rfl (by decide) (by decide) (by decide) (by decide) ?_
    refine m_iload_n C dX12_ticks_178 rfl ?_
    refine m_dup2 C dX12_ticks_179 rfl rfl ?_
    obtain ⟨hb, h⟩ := h
    refine f_iald C dX12_ticks_180 (m_arO (a := 0) (len := 22) rfl rfl) (by decide) hb ?_
    refine m_iconst C dX12_ticks_181 (by unfold in32; omega) ?_
    refine m_iadd C dX12_ticks_182 ?_
    obtain ⟨hb, h⟩ := h
    refine f_iast C dX12_ticks_183 (m_arO (a := 0) (len := 22) rfl rfl) (by decide) hb ?_
    refine n_mem (fun μ1 eμ1 => ?_)
    have h := h μ1 eμ1
    exact f_vret C R rfl dX12_ticks_184 h
  · have h := h.2 c
    refine m_aload_n C dX12_ticks_59 rfl ?_
    refine f_getA C dX12_ticks_60 fl_KilnBenchModel_162 rfl (by decide) (by decide) (by decide) (by decide) ?_
    refine m_iconst C dX12_ticks_63 (by unfold in32; omega) ?_
    refine m_iload_n C dX12_ticks_64 rfl ?_
    refine m_imul C dX12_ticks_65 ?_
    refine m_iload C dX12_ticks_66 rfl ?_
    refine m_iadd C dX12_ticks_68 ?_
    obtain ⟨hb, h⟩ := h
    refine f_iald C dX12_ticks_69 (m_arO (a := 0) (len := 66) rfl rfl) (by decide) hb ?_
    refine m_iconst C dX12_ticks_70 (by unfold in32; omega) ?_
    refine m_icmp_eq (tgt := 168) C dX12_ticks_71 (by decide) (fun c => ?_) (fun c => ?_)
    · have h := h.1 c
      refine n_iinc (fun x2 => [some (vR 34 0), some (vI a1), some (vI a2), some (vI l3), some (vI x2), none]) C dX12_ticks_168 rfl (by decide) (fun _ => rfl) (fun x2 ex2 => ?_)
      have h := h x2 ex2
      refine m_goto (tgt := 45) C dX12_ticks_171 (by decide) ?_
      exact h
    · have h := h.2 c
      refine m_aload_n C dX12_ticks_74 rfl ?_
      refine m_iload_n C dX12_ticks_75 rfl ?_
      refine m_iload C dX12_ticks_76 rfl ?_
      refine f_callVi (As := [vI a1, vI l4]) (st := []) C dX12_ticks_78 ml_KilnBenchModel_422 rfl (by decide) rfl rfl rfl (Nat.le_of_ble_eq_true rfl) h (fun r4 μ3 h => ?_)
      refine m_if_eq (tgt := 168) C dX12_ticks_81 (by decide) (fun c => ?_) (fun c => ?_)
      · have h := h.1 c
        refine n_iinc (fun x5 => [some (vR 34 0), some (vI a1), some (vI a2), some (vI l3), some (vI x5), none]) C dX12_ticks_168 rfl (by decide) (fun _ => rfl) (fun x5 ex5 => ?_)
        have h := h x5 ex5
        refine m_goto (tgt := 45) C dX12_ticks_171 (by decide) ?_
        exact h
      · have h := h.2 c
        refine m_aload_n C dX12_ticks_84 rfl ?_
        refine m_iload_n C dX12_ticks_85 rfl ?_
        refine m_iload C dX12_ticks_86 rfl ?_
        refine f_callVi (As := [vI a1, vI l4]) (st := []) C dX12_ticks_88 ml_KilnBenchModel_440 rfl (by decide) rfl rfl rfl (Nat.le_of_ble_eq_true rfl) h (fun r7 μ6 h => ?_)
        refine m_aload_n C dX12_ticks_91 rfl ?_
        refine f_getA C dX12_ticks_92 fl_KilnBenchModel_144 rfl (by decide) (by decide) (by decide) (by decide) ?_
        refine m_iload_n C dX12_ticks_95 rfl ?_
        obtain ⟨hb, h⟩ := h
        refine f_iald C dX12_ticks_96 (m_arO (a := 0) (len := 22) rfl rfl) (by decide) hb ?_
        refine m_icmp_le (tgt := 103) C dX12_ticks_97 (by decide) (fun c => ?_) (fun c => ?_)
        · have h := h.1 c
          refine m_aload_n C dX12_ticks_103 rfl ?_
          refine f_getA C dX12_ticks_104 fl_KilnBenchModel_144 rfl (by decide) (by decide) (by decide) (by decide) ?_
          refine m_iload_n C dX12_ticks_107 rfl ?_
          refine m_dup2 C dX12_ticks_108 rfl rfl ?_
          obtain ⟨hb, h⟩ := h
          refine f_iald C dX12_ticks_109 (m_arO (a := 0) (len := 22) rfl rfl) (by decide) hb ?_
          refine m_aload_n C dX12_ticks_110 rfl ?_
          refine m_iload_n C dX12_ticks_111 rfl ?_
          refine m_iload C dX12_ticks_112 rfl ?_
          refine f_callVi (As := [vI a1, vI l4]) (st := [vI (μ6 34 44 a1.toNat), vI a1, vR 34 44]) C dX12_ticks_114 ml_KilnBenchModel_440 rfl (by decide) rfl rfl rfl (Nat.le_of_ble_eq_true rfl) h (fun r9 μ8 h => ?_)
          refine m_isub C dX12_ticks_117 ?_
          obtain ⟨hb, h⟩ := h
          refine f_iast C dX12_ticks_118 (m_arO (a := 0) (len := 22) rfl rfl) (by decide) hb ?_
          refine n_mem (fun μ10 eμ10 => ?_)
          have h := h μ10 eμ10
          refine m_aload_n C dX12_ticks_119 rfl ?_
          refine f_getA C dX12_ticks_120 fl_KilnBenchModel_162 rfl (by decide) (by decide) (by decide) (by decide) ?_
          refine m_iconst C dX12_ticks_123 (by unfold in32; omega) ?_
          refine m_iload_n C dX12_ticks_124 rfl ?_
          refine m_imul C dX12_ticks_125 ?_
          refine m_iload C dX12_ticks_126 rfl ?_
          refine m_iadd C dX12_ticks_128 ?_
          obtain ⟨hb, h⟩ := h
          refine f_iald C dX12_ticks_129 (m_arO (a := 0) (len := 66) rfl rfl) (by decide) hb ?_
          refine m_iload_n C dX12_ticks_130 rfl ?_
          refine m_iadd C dX12_ticks_131 ?_
          refine n_istore (fun x11 => [some (vR 34 0), some (vI a1), some (vI a2), some (vI l3), some (vI l4), some (vI x11)]) C dX12_ticks_132 (by decide) (fun _ => rfl) (fun x11 ex11 => ?_)
          have h := h x11 ex11
          refine m_aload_n C dX12_ticks_134 rfl ?_
          refine m_iload_n C dX12_ticks_135 rfl ?_
          refine m_iload C dX12_ticks_136 rfl ?_
          refine m_iload C dX12_ticks_138 rfl ?_
          refine m_bipush C dX12_ticks_140 (by omega) ?_
          refine m_icmp_le (tgt := 150) C dX12_ticks_142 (by decide) (fun c => ?_) (fun c => ?_)
          · have h := h.1 c
            refine m_iload C dX12_ticks_150 rfl ?_
            refine f_callVv (As := [vI a1, vI l4, vI x11]) (st := []) C dX12_ticks_152 ml_KilnBenchModel_443 rfl (by decide) rfl rfl rfl (Nat.le_of_ble_eq_true rfl) h (fun μ12 h => ?_)
            refine m_aload_n C dX12_ticks_155 rfl ?_
            refine m_dup C dX12_ticks_156 rfl ?_
            refine f_getI C dX12_ticks_157 fl_KilnBenchModel_186 rfl (by decide) (by decide) ?_
            refine m_iconst C dX12_ticks_160 (by unfold in32; omega) ?_
            refine m_iload C dX12_ticks_161 rfl ?_
            refine m_ishl C dX12_ticks_163 ?_
            refine m_ior C dX12_ticks_164 ?_
            refine f_putI C dX12_ticks_165 fl_KilnBenchModel_186 rfl (by decide) (by decide) (by decide) ?_
            refine n_mem (fun μ13 eμ13 => ?_)
            have h := h μ13 eμ13
            refine n_iinc (fun x14 => [some (vR 34 0), some (vI a1), some (vI a2), some (vI l3), some (vI x14), some (vI x11)]) C dX12_ticks_168 rfl (by decide) (fun _ => rfl) (fun x14 ex14 => ?_)
            have h := h x14 ex14
            refine m_goto (tgt := 45) C dX12_ticks_171 (by decide) ?_
            exact n_weak (le_same (le_same (le_same (le_same (le_same (le_none le_nil)))))) h
          · have h := h.2 c
            refine m_bipush C dX12_ticks_145 (by omega) ?_
            refine m_goto (tgt := 152) C dX12_ticks_147 (by decide) ?_
            refine f_callVv (As := [vI a1, vI l4, vI 20]) (st := []) C dX12_ticks_152 ml_KilnBenchModel_443 rfl (by decide) rfl rfl rfl (Nat.le_of_ble_eq_true rfl) h (fun μ15 h => ?_)
            refine m_aload_n C dX12_ticks_155 rfl ?_
            refine m_dup C dX12_ticks_156 rfl ?_
            refine f_getI C dX12_ticks_157 fl_KilnBenchModel_186 rfl (by decide) (by decide) ?_
            refine m_iconst C dX12_ticks_160 (by unfold in32; omega) ?_
            refine m_iload C dX12_ticks_161 rfl ?_
            refine m_ishl C dX12_ticks_163 ?_
            refine m_ior C dX12_ticks_164 ?_
            refine f_putI C dX12_ticks_165 fl_KilnBenchModel_186 rfl (by decide) (by decide) (by decide) ?_
            refine n_mem (fun μ16 eμ16 => ?_)
            have h := h μ16 eμ16
            refine n_iinc (fun x17 => [some (vR 34 0), some (vI a1), some (vI a2), some (vI l3), some (vI x17), some (vI x11)]) C dX12_ticks_168 rfl (by decide) (fun _ => rfl) (fun x17 ex17 => ?_)
            have h := h x17 ex17
            refine m_goto (tgt := 45) C dX12_ticks_171 (by decide) ?_
            exact n_weak (le_same (le_same (le_same (le_same (le_same (le_none le_nil)))))) h
        · have h := h.2 c
          refine m_goto (tgt := 168) C dX12_ticks_100 (by decide) ?_
          refine n_iinc (fun x18 => [some (vR 34 0), some (vI a1), some (vI a2), some (vI l3), some (vI x18), none]) C dX12_ticks_168 rfl (by decide) (fun _ => rfl) (fun x18 ex18 => ?_)
          have h := h x18 ex18
          refine m_goto (tgt := 45) C dX12_ticks_171 (by decide) ?_
          exact h

set_option maxRecDepth 20000 in
theorem VX12_isChild_0 {G : m_G} {X : m_X} {d : Nat} {K : Int → m_M → Prop} (C : mC G X YX12_isChild (d + 1)) (R : r_i G X K) {μ : m_M} {a1 : Int}
    (h : ((a1 < 0) → K 0 μ) ∧ ((¬ a1 < 0) → (0 ≤ μ 34 0 13 ∧ μ 34 0 13 < 2) ∧ ((μ 34 15 (μ 34 0 13).toNat ≤ a1) → K 0 μ) ∧ ((¬ μ 34 15 (μ 34 0 13).toNat ≤ a1) → K 1 μ))) :
    mW G X YX12_isChild μ 0 [some (vR 34 0), some (vI a1)] [] := by
  refine m_iload_n C dX12_isChild_0 rfl ?_
  refine m_if_lt (tgt := 21) C dX12_isChild_1 (by decide) (fun c => ?_) (fun c => ?_)
  · have h := h.1 c
    refine m_iconst C dX12_isChild_21 (by unfold in32; omega) ?_
    exact f_zret C R rfl dX12_isChild_22 (by decide) h
  · have h := h.2 c
    refine m_iload_n C dX12_isChild_4 rfl ?_
    refine m_aload_n C dX12_isChild_5 rfl ?_
    refine f_getA C dX12_isChild_6 fl_KilnBenchModel_54 rfl (by decide) (by decide) (by decide) (by decide) ?_
    refine m_aload_n C dX12_isChild_9 rfl ?_
    refine f_getI C dX12_isChild_10 fl_KilnBenchModel_51 rfl (by decide) (by decide) ?_
    obtain ⟨hb, h⟩ := h
    refine f_iald C dX12_isChild_13 (m_arO (a := 0) (len := 2) rfl rfl) (by decide) hb ?_
    refine m_icmp_ge (tgt := 21) C dX12_isChild_14 (by decide) (fun c => ?_) (fun c => ?_)
    · have h := h.1 c
      refine m_iconst C dX12_isChild_21 (by unfold in32; omega) ?_
      exact f_zret C R rfl dX12_isChild_22 (by decide) h
    · have h := h.2 c
      refine m_iconst C dX12_isChild_17 (by unfold in32; omega) ?_
      refine m_goto (tgt := 22) C dX12_isChild_18 (by decide) ?_
      exact f_zret C R rfl dX12_isChild_22 (by decide) h

set_option maxRecDepth 20000 in
theorem VX12_isKiln_0 {G : m_G} {X : m_X} {d : Nat} {K : Int → m_M → Prop} (C : mC G X YX12_isKiln (d + 1)) (R : r_i G X K) {μ : m_M} {a1 : Int}
    (h : ((a1 < 0) → K 0 μ) ∧ ((¬ a1 < 0) → (0 ≤ μ 34 0 13 ∧ μ 34 0 13 < 2) ∧ ((μ 34 18 (μ 34 0 13).toNat ≤ a1) → K 0 μ) ∧ ((¬ μ 34 18 (μ 34 0 13).toNat ≤ a1) → K 1 μ))) :
    mW G X YX12_isKiln μ 0 [some (vR 34 0), some (vI a1)] [] := by
  refine m_iload_n C dX12_isKiln_0 rfl ?_
  refine m_if_lt (tgt := 21) C dX12_isKiln_1 (by decide) (fun c => ?_) (fun c => ?_)
  · have h := h.1 c
    refine m_iconst C dX12_isKiln_21 (by unfold in32; omega) ?_
    exact f_zret C R rfl dX12_isKiln_22 (by decide) h
  · have h := h.2 c
    refine m_iload_n C dX12_isKiln_4 rfl ?_
    refine m_aload_n C dX12_isKiln_5 rfl ?_
    refine f_getA C dX12_isKiln_6 fl_KilnBenchModel_63 rfl (by decide) (by decide) (by decide) (by decide) ?_
    refine m_aload_n C dX12_isKiln_9 rfl ?_
    refine f_getI C dX12_isKiln_10 fl_KilnBenchModel_51 rfl (by decide) (by decide) ?_
    obtain ⟨hb, h⟩ := h
    refine f_iald C dX12_isKiln_13 (m_arO (a := 0) (len := 2) rfl rfl) (by decide) hb ?_
    refine m_icmp_ge (tgt := 21) C dX12_isKiln_14 (by decide) (fun c => ?_) (fun c => ?_)
    · have h := h.1 c
      refine m_iconst C dX12_isKiln_21 (by unfold in32; omega) ?_
      exact f_zret C R rfl dX12_isKiln_22 (by decide) h
    · have h := h.2 c
      refine m_iconst C dX12_isKiln_17 (by unfold in32; omega) ?_
      refine m_goto (tgt := 22) C dX12_isKiln_18 (by decide) ?_
      exact f_zret C R rfl dX12_isKiln_22 (by decide) h

set_option maxRecDepth 20000 in
theorem VX12_isPlaceOf_0 {G : m_G} {X : m_X} {d : Nat} {K : Int → m_M → Prop} (C : mC G X YX12_isPlaceOf (d + 1)) (R : r_i G X K) {μ : m_M} {a1 : Int} {a2 : Int}
    (h : c_i G d YX12_isKiln [vR 34 0, vI a1] μ (fun r2 μ1 => ((r2 = 0) → K 0 μ1) ∧ ((¬ r2 = 0) → (0 ≤ w32 ((w32 (3 * (μ1 34 0 13))) + a1) ∧ w32 ((w32 (3 * (μ1 34 0 13))) + a1) < 6) ∧ c_i G d YX12_is [vI a2, vI 0, vI (w32 ((μ1 34 19 (w32 ((w32 (3 * (μ1 34 0 13))) + a1)).toNat) - 1))] μ1 (fun r4 μ3 => ((r4 = 0) → K 0 μ3) ∧ ((¬ r4 = 0) → K 1 μ3))))) :
    mW G X YX12_isPlaceOf μ 0 [some (vR 34 0), some (vI a1), some (vI a2)] [] := by
  refine m_aload_n C dX12_isPlaceOf_0 rfl ?_
  refine m_iload_n C dX12_isPlaceOf_1 rfl ?_
  refine f_callVi (As := [vI a1]) (st := []) C dX12_isPlaceOf_2 ml_KilnBenchModel_447 rfl (by decide) rfl rfl rfl (Nat.le_of_ble_eq_true rfl) h (fun r2 μ1 h => ?_)
  refine m_if_eq (tgt := 35) C dX12_isPlaceOf_5 (by decide) (fun c => ?_) (fun c => ?_)
  · have h := h.1 c
    refine m_iconst C dX12_isPlaceOf_35 (by unfold in32; omega) ?_
    exact f_zret C R rfl dX12_isPlaceOf_36 (by decide) h
  · have h := h.2 c
    refine m_iload_n C dX12_isPlaceOf_8 rfl ?_
    refine m_iconst C dX12_isPlaceOf_9 (by unfold in32; omega) ?_
    refine m_aload_n C dX12_isPlaceOf_10 rfl ?_
    refine f_getA C dX12_isPlaceOf_11 fl_KilnBenchModel_66 rfl (by decide) (by decide) (by decide) (by decide) ?_
    refine m_iconst C dX12_isPlaceOf_14 (by unfold in32; omega) ?_
    refine m_aload_n C dX12_isPlaceOf_15 rfl ?_
    refine f_getI C dX12_isPlaceOf_16 fl_KilnBenchModel_51 rfl (by decide) (by decide) ?_
    refine m_imul C dX12_isPlaceOf_19 ?_
    refine m_iload_n C dX12_isPlaceOf_20 rfl ?_
    refine m_iadd C dX12_isPlaceOf_21 ?_
    obtain ⟨hb, h⟩ := h
    refine f_iald C dX12_isPlaceOf_22 (m_arO (a := 0) (len := 6) rfl rfl) (by decide) hb ?_
    refine m_iconst C dX12_isPlaceOf_23 (by unfold in32; omega) ?_
    refine m_isub C dX12_isPlaceOf_24 ?_
    refine f_callSi (As := [vI a2, vI 0, vI (w32 ((μ1 34 19 (w32 ((w32 (3 * (μ1 34 0 13))) + a1)).toNat) - 1))]) (st := []) C dX12_isPlaceOf_25 ml_KilnBenchModel_296 rfl rfl (Nat.le_of_ble_eq_true rfl) h (fun r4 μ3 h => ?_)
    refine m_if_eq (tgt := 35) C dX12_isPlaceOf_28 (by decide) (fun c => ?_) (fun c => ?_)
    · have h := h.1 c
      refine m_iconst C dX12_isPlaceOf_35 (by unfold in32; omega) ?_
      exact f_zret C R rfl dX12_isPlaceOf_36 (by decide) h
    · have h := h.2 c
      refine m_iconst C dX12_isPlaceOf_31 (by unfold in32; omega) ?_
      refine m_goto (tgt := 36) C dX12_isPlaceOf_32 (by decide) ?_
      exact f_zret C R rfl dX12_isPlaceOf_36 (by decide) h

set_option maxRecDepth 20000 in
theorem VX12_has_0 {G : m_G} {X : m_X} {d : Nat} {K : Int → m_M → Prop} (C : mC G X YX12_has (d + 1)) (R : r_i G X K) {μ : m_M} {a1 : Int}
    (h : ((a1 = 0) → (0 ≤ μ 34 0 13 ∧ μ 34 0 13 < 2) ∧ K (μ 34 15 (μ 34 0 13).toNat) μ) ∧ ((a1 = 1) → (0 ≤ μ 34 0 13 ∧ μ 34 0 13 < 2) ∧ K (μ 34 18 (μ 34 0 13).toNat) μ) ∧ ((a1 = 2) → K (μ 34 43 0) μ) ∧ ((a1 = 3) → K (μ 34 44 0) μ) ∧ ((a1 = 4) → mW G X YX12_has μ 100 [some (vR 34 0), some (vI a1), some (vI 0), some (vI 0)] []) ∧ ((a1 = 5) → mW G X YX12_has μ 141 [some (vR 34 0), some (vI a1), some (vI 0), some (vI 0)] []) ∧ ((a1 = 6) → c_i G d YX12_bits [vI (μ 34 49 0)] μ (fun r5 μ4 => K r5 μ4)) ∧ ((a1 = 7) → mW G X YX12_has μ 192 [some (vR 34 0), some (vI a1), some (vI 0), some (vI 0)] []) ∧ ((a1 = 8) → K (μ 34 51 0) μ) ∧ ((a1 = 9) → K (μ 34 0 60) μ) ∧ ((a1 = 10) → K (μ 34 0 53) μ) ∧ ((a1 = 11) → K (w32 (μ 34 0 54)) μ) ∧ (((a1 < 0 ∨ 11 < a1)) → K (-1) μ)) :
    mW G X YX12_has μ 0 [some (vR 34 0), some (vI a1), none, none] [] := by
  refine m_iconst C dX12_has_0 (by unfold in32; omega) ?_
  refine o_istore_n [some (vR 34 0), some (vI a1), some (vI 0), none] C dX12_has_1 (by decide) rfl ?_
  refine m_iload_n C dX12_has_2 rfl ?_
  by_cases hx : a1 < 0 ∨ 11 < a1
  · have h := h.2.2.2.2.2.2.2.2.2.2.2.2 (by omega)
    refine m_swOut (tgt := 254) C dX12_has_3 hx (by decide) ?_
    refine m_iconst C dX12_has_254 (by unfold in32; omega) ?_
    exact f_iret C R rfl dX12_has_255 h
  · have hx : a1 = 0 ∨ a1 = 1 ∨ a1 = 2 ∨ a1 = 3 ∨ a1 = 4 ∨ a1 = 5 ∨ a1 = 6 ∨ a1 = 7 ∨ a1 = 8 ∨ a1 = 9 ∨ a1 = 10 ∨ a1 = 11 := by omega
    rcases hx with hx | hx | hx | hx | hx | hx | hx | hx | hx | hx | hx | hx
    · have h := h.1 hx
      refine m_swIn (tgt := 64) (off := 61) C dX12_has_3 (by omega) (by omega) (by rw [hx]; rfl) (by decide) ?_
      refine m_aload_n C dX12_has_64 rfl ?_
      refine f_getA C dX12_has_65 fl_KilnBenchModel_54 rfl (by decide) (by decide) (by decide) (by decide) ?_
      refine m_aload_n C dX12_has_68 rfl ?_
      refine f_getI C dX12_has_69 fl_KilnBenchModel_51 rfl (by decide) (by decide) ?_
      obtain ⟨hb, h⟩ := h
      refine f_iald C dX12_has_72 (m_arO (a := 0) (len := 2) rfl rfl) (by decide) hb ?_
      exact f_iret C R rfl dX12_has_73 h
    · have h := h.2.1 hx
      refine m_swIn (tgt := 74) (off := 71) C dX12_has_3 (by omega) (by omega) (by rw [hx]; rfl) (by decide) ?_
      refine m_aload_n C dX12_has_74 rfl ?_
      refine f_getA C dX12_has_75 fl_KilnBenchModel_63 rfl (by decide) (by decide) (by decide) (by decide) ?_
      refine m_aload_n C dX12_has_78 rfl ?_
      refine f_getI C dX12_has_79 fl_KilnBenchModel_51 rfl (by decide) (by decide) ?_
      obtain ⟨hb, h⟩ := h
      refine f_iald C dX12_has_82 (m_arO (a := 0) (len := 2) rfl rfl) (by decide) hb ?_
      exact f_iret C R rfl dX12_has_83 h
    · have h := h.2.2.1 hx
      refine m_swIn (tgt := 84) (off := 81) C dX12_has_3 (by omega) (by omega) (by rw [hx]; rfl) (by decide) ?_
      refine m_aload_n C dX12_has_84 rfl ?_
      refine f_getA C dX12_has_85 fl_KilnBenchModel_141 rfl (by decide) (by decide) (by decide) (by decide) ?_
      refine m_iconst C dX12_has_88 (by unfold in32; omega) ?_
      refine f_iald C dX12_has_89 (m_arO (a := 0) (len := 22) rfl rfl) (by decide) (by decide) ?_
      exact f_iret C R rfl dX12_has_90 h
    · have h := h.2.2.2.1 hx
      refine m_swIn (tgt := 91) (off := 88) C dX12_has_3 (by omega) (by omega) (by rw [hx]; rfl) (by decide) ?_
      refine m_aload_n C dX12_has_91 rfl ?_
      refine f_getA C dX12_has_92 fl_KilnBenchModel_144 rfl (by decide) (by decide) (by decide) (by decide) ?_
      refine m_iconst C dX12_has_95 (by unfold in32; omega) ?_
      refine f_iald C dX12_has_96 (m_arO (a := 0) (len := 22) rfl rfl) (by decide) (by decide) ?_
      exact f_iret C R rfl dX12_has_97 h
    · have h := h.2.2.2.2.1 hx
      refine m_swIn (tgt := 98) (off := 95) C dX12_has_3 (by omega) (by omega) (by rw [hx]; rfl) (by decide) ?_
      refine m_iconst C dX12_has_98 (by unfold in32; omega) ?_
      refine o_istore_n [some (vR 34 0), some (vI a1), some (vI 0), some (vI 0)] C dX12_has_99 (by decide) rfl ?_
      exact h
    · have h := h.2.2.2.2.2.1 hx
      refine m_swIn (tgt := 139) (off := 136) C dX12_has_3 (by omega) (by omega) (by rw [hx]; rfl) (by decide) ?_
      refine m_iconst C dX12_has_139 (by unfold in32; omega) ?_
      refine o_istore_n [some (vR 34 0), some (vI a1), some (vI 0), some (vI 0)] C dX12_has_140 (by decide) rfl ?_
      exact h
    · have h := h.2.2.2.2.2.2.1 hx
      refine m_swIn (tgt := 180) (off := 177) C dX12_has_3 (by omega) (by omega) (by rw [hx]; rfl) (by decide) ?_
      refine m_aload_n C dX12_has_180 rfl ?_
      refine f_getA C dX12_has_181 fl_KilnBenchModel_159 rfl (by decide) (by decide) (by decide) (by decide) ?_
      refine m_iconst C dX12_has_184 (by unfold in32; omega) ?_
      refine f_iald C dX12_has_185 (m_arO (a := 0) (len := 22) rfl rfl) (by decide) (by decide) ?_
      refine f_callSi (As := [vI (μ 34 49 0)]) (st := []) C dX12_has_186 ml_KilnBenchModel_450 rfl rfl (Nat.le_of_ble_eq_true rfl) h (fun r5 μ4 h => ?_)
      exact f_iret C R rfl dX12_has_189 h
    · have h := h.2.2.2.2.2.2.2.1 hx
      refine m_swIn (tgt := 190) (off := 187) C dX12_has_3 (by omega) (by omega) (by rw [hx]; rfl) (by decide) ?_
      refine m_iconst C dX12_has_190 (by unfold in32; omega) ?_
      refine o_istore_n [some (vR 34 0), some (vI a1), some (vI 0), some (vI 0)] C dX12_has_191 (by decide) rfl ?_
      exact h
    · have h := h.2.2.2.2.2.2.2.2.1 hx
      refine m_swIn (tgt := 231) (off := 228) C dX12_has_3 (by omega) (by omega) (by rw [hx]; rfl) (by decide) ?_
      refine m_aload_n C dX12_has_231 rfl ?_
      refine f_getA C dX12_has_232 fl_KilnBenchModel_165 rfl (by decide) (by decide) (by decide) (by decide) ?_
      refine m_iconst C dX12_has_235 (by unfold in32; omega) ?_
      refine f_iald C dX12_has_236 (m_arO (a := 0) (len := 22) rfl rfl) (by decide) (by decide) ?_
      exact f_iret C R rfl dX12_has_237 h
    · have h := h.2.2.2.2.2.2.2.2.2.1 hx
      refine m_swIn (tgt := 238) (off := 235) C dX12_has_3 (by omega) (by omega) (by rw [hx]; rfl) (by decide) ?_
      refine m_aload_n C dX12_has_238 rfl ?_
      refine f_getI C dX12_has_239 fl_KilnBenchModel_195 rfl (by decide) (by decide) ?_
      exact f_iret C R rfl dX12_has_242 h
    · have h := h.2.2.2.2.2.2.2.2.2.2.1 hx
      refine m_swIn (tgt := 243) (off := 240) C dX12_has_3 (by omega) (by omega) (by rw [hx]; rfl) (by decide) ?_
      refine m_aload_n C dX12_has_243 rfl ?_
      refine f_getI C dX12_has_244 fl_KilnBenchModel_174 rfl (by decide) (by decide) ?_
      exact f_iret C R rfl dX12_has_247 h
    · have h := h.2.2.2.2.2.2.2.2.2.2.2.1 hx
      refine m_swIn (tgt := 248) (off := 245) C dX12_has_3 (by omega) (by omega) (by rw [hx]; rfl) (by decide) ?_
      refine m_aload_n C dX12_has_248 rfl ?_
      refine f_getJ C dX12_has_249 fl_KilnBenchModel_177 rfl (by decide) (by decide) ?_
      refine m_l2i C dX12_has_252 ?_
      exact f_iret C R rfl dX12_has_253 h

set_option maxRecDepth 20000 in
theorem VX12_has_100 {G : m_G} {X : m_X} {d : Nat} {K : Int → m_M → Prop} (C : mC G X YX12_has (d + 1)) (R : r_i G X K) {μ : m_M} {a1 : Int} {l2 : Int} {l3 : Int}
    (h : (0 ≤ μ 34 0 13 ∧ μ 34 0 13 < 2) ∧ ((μ 34 15 (μ 34 0 13).toNat ≤ l3) → K l2 μ) ∧ ((¬ μ 34 15 (μ 34 0 13).toNat ≤ l3) → (0 ≤ l3 ∧ l3 < 176) ∧ ((¬ (μ 34 45 l3.toNat) = (-1)) → ∀ x1 : Int, x1 = w32 (l2 + 1) → ∀ x2 : Int, x2 = w32 (l3 + 1) → mW G X YX12_has μ 100 [some (vR 34 0), some (vI a1), some (vI x1), some (vI x2)] []) ∧ ((μ 34 45 l3.toNat = (-1)) → ∀ x3 : Int, x3 = w32 (l2 + 0) → ∀ x4 : Int, x4 = w32 (l3 + 1) → mW G X YX12_has μ 100 [some (vR 34 0), some (vI a1), some (vI x3), some (vI x4)] []))) :
    mW G X YX12_has μ 100 [some (vR 34 0), some (vI a1), some (vI l2), some (vI l3)] [] := by
  refine m_iload_n C dX12_has_100 rfl ?_
  refine m_aload_n C dX12_has_101 rfl ?_
  refine f_getA C dX12_has_102 fl_KilnBenchModel_54 rfl (by decide) (by decide) (by decide) (by decide) ?_
  refine m_aload_n C dX12_has_105 rfl ?_
  refine f_getI C dX12_has_106 fl_KilnBenchModel_51 rfl (by decide) (by decide) ?_
  obtain ⟨hb, h⟩ := h
  refine f_iald C dX12_has_109 (m_arO (a := 0) (len := 2) rfl rfl) (by decide) hb ?_
  refine m_icmp_ge (tgt := 137) C dX12_has_110 (by decide) (fun c => ?_) (fun c => ?_)
  · have h := h.1 c
    refine m_iload_n C dX12_has_137 rfl ?_
    exact f_iret C R rfl dX12_has_138 h
  · have h := h.2 c
    refine m_iload_n C dX12_has_113 rfl ?_
    refine m_aload_n C dX12_has_114 rfl ?_
    refine f_getA C dX12_has_115 fl_KilnBenchModel_147 rfl (by decide) (by decide) (by decide) (by decide) ?_
    refine m_iload_n C dX12_has_118 rfl ?_
    obtain ⟨hb, h⟩ := h
    refine f_iald C dX12_has_119 (m_arO (a := 0) (len := 176) rfl rfl) (by decide) hb ?_
    refine m_iconst C dX12_has_120 (by unfold in32; omega) ?_
    refine m_icmp_ne (tgt := 128) C dX12_has_121 (by decide) (fun c => ?_) (fun c => ?_)
    · have h := h.1 c
      refine m_iconst C dX12_has_128 (by unfold in32; omega) ?_
      refine m_iadd C dX12_has_129 ?_
      refine n_istore_n (fun x1 => [some (vR 34 0), some (vI a1), some (vI x1), some (vI l3)]) C dX12_has_130 (by decide) (fun _ => rfl) (fun x1 ex1 => ?_)
      have h := h x1 ex1
      refine n_iinc (fun x2 => [some (vR 34 0), some (vI a1), some (vI x1), some (vI x2)]) C dX12_has_131 rfl (by decide) (fun _ => rfl) (fun x2 ex2 => ?_)
      have h := h x2 ex2
      refine m_goto (tgt := 100) C dX12_has_134 (by decide) ?_
      exact h
    · have h := h.2 c
      refine m_iconst C dX12_has_124 (by unfold in32; omega) ?_
      refine m_goto (tgt := 129) C dX12_has_125 (by decide) ?_
      refine m_iadd C dX12_has_129 ?_
      refine n_istore_n (fun x3 => [some (vR 34 0), some (vI a1), some (vI x3), some (vI l3)]) C dX12_has_130 (by decide) (fun _ => rfl) (fun x3 ex3 => ?_)
      have h := h x3 ex3
      refine n_iinc (fun x4 => [some (vR 34 0), some (vI a1), some (vI x3), some (vI x4)]) C dX12_has_131 rfl (by decide) (fun _ => rfl) (fun x4 ex4 => ?_)
      have h := h x4 ex4
      refine m_goto (tgt := 100) C dX12_has_134 (by decide) ?_
      exact h

set_option maxRecDepth 20000 in
theorem VX12_has_141 {G : m_G} {X : m_X} {d : Nat} {K : Int → m_M → Prop} (C : mC G X YX12_has (d + 1)) (R : r_i G X K) {μ : m_M} {a1 : Int} {l2 : Int} {l3 : Int}
    (h : (0 ≤ μ 34 0 13 ∧ μ 34 0 13 < 2) ∧ ((μ 34 15 (μ 34 0 13).toNat ≤ l3) → K l2 μ) ∧ ((¬ μ 34 15 (μ 34 0 13).toNat ≤ l3) → (0 ≤ l3 ∧ l3 < 176) ∧ ((¬ (μ 34 47 l3.toNat) = (-1)) → ∀ x1 : Int, x1 = w32 (l2 + 1) → ∀ x2 : Int, x2 = w32 (l3 + 1) → mW G X YX12_has μ 141 [some (vR 34 0), some (vI a1), some (vI x1), some (vI x2)] []) ∧ ((μ 34 47 l3.toNat = (-1)) → ∀ x3 : Int, x3 = w32 (l2 + 0) → ∀ x4 : Int, x4 = w32 (l3 + 1) → mW G X YX12_has μ 141 [some (vR 34 0), some (vI a1), some (vI x3), some (vI x4)] []))) :
    mW G X YX12_has μ 141 [some (vR 34 0), some (vI a1), some (vI l2), some (vI l3)] [] := by
  refine m_iload_n C dX12_has_141 rfl ?_
  refine m_aload_n C dX12_has_142 rfl ?_
  refine f_getA C dX12_has_143 fl_KilnBenchModel_54 rfl (by decide) (by decide) (by decide) (by decide) ?_
  refine m_aload_n C dX12_has_146 rfl ?_
  refine f_getI C dX12_has_147 fl_KilnBenchModel_51 rfl (by decide) (by decide) ?_
  obtain ⟨hb, h⟩ := h
  refine f_iald C dX12_has_150 (m_arO (a := 0) (len := 2) rfl rfl) (by decide) hb ?_
  refine m_icmp_ge (tgt := 178) C dX12_has_151 (by decide) (fun c => ?_) (fun c => ?_)
  · have h := h.1 c
    refine m_iload_n C dX12_has_178 rfl ?_
    exact f_iret C R rfl dX12_has_179 h
  · have h := h.2 c
    refine m_iload_n C dX12_has_154 rfl ?_
    refine m_aload_n C dX12_has_155 rfl ?_
    refine f_getA C dX12_has_156 fl_KilnBenchModel_153 rfl (by decide) (by decide) (by decide) (by decide) ?_
    refine m_iload_n C dX12_has_159 rfl ?_
    obtain ⟨hb, h⟩ := h
    refine f_iald C dX12_has_160 (m_arO (a := 0) (len := 176) rfl rfl) (by decide) hb ?_
    refine m_iconst C dX12_has_161 (by unfold in32; omega) ?_
    refine m_icmp_ne (tgt := 169) C dX12_has_162 (by decide) (fun c => ?_) (fun c => ?_)
    · have h := h.1 c
      refine m_iconst C dX12_has_169 (by unfold in32; omega) ?_
      refine m_iadd C dX12_has_170 ?_
      refine n_istore_n (fun x1 => [some (vR 34 0), some (vI a1), some (vI x1), some (vI l3)]) C dX12_has_171 (by decide) (fun _ => rfl) (fun x1 ex1 => ?_)
      have h := h x1 ex1
      refine n_iinc (fun x2 => [some (vR 34 0), some (vI a1), some (vI x1), some (vI x2)]) C dX12_has_172 rfl (by decide) (fun _ => rfl) (fun x2 ex2 => ?_)
      have h := h x2 ex2
      refine m_goto (tgt := 141) C dX12_has_175 (by decide) ?_
      exact h
    · have h := h.2 c
      refine m_iconst C dX12_has_165 (by unfold in32; omega) ?_
      refine m_goto (tgt := 170) C dX12_has_166 (by decide) ?_
      refine m_iadd C dX12_has_170 ?_
      refine n_istore_n (fun x3 => [some (vR 34 0), some (vI a1), some (vI x3), some (vI l3)]) C dX12_has_171 (by decide) (fun _ => rfl) (fun x3 ex3 => ?_)
      have h := h x3 ex3
      refine n_iinc (fun x4 => [some (vR 34 0), some (vI a1), some (vI x3), some (vI x4)]) C dX12_has_172 rfl (by decide) (fun _ => rfl) (fun x4 ex4 => ?_)
      have h := h x4 ex4
      refine m_goto (tgt := 141) C dX12_has_175 (by decide) ?_
      exact h

set_option maxRecDepth 20000 in
theorem VX12_has_192 {G : m_G} {X : m_X} {d : Nat} {K : Int → m_M → Prop} (C : mC G X YX12_has (d + 1)) (R : r_i G X K) {μ : m_M} {a1 : Int} {l2 : Int} {l3 : Int}
    (h : (0 ≤ μ 34 0 13 ∧ μ 34 0 13 < 2) ∧ ((μ 34 18 (μ 34 0 13).toNat ≤ l3) → K l2 μ) ∧ ((¬ μ 34 18 (μ 34 0 13).toNat ≤ l3) → (0 ≤ l3 ∧ l3 < 66) ∧ ((¬ (μ 34 50 l3.toNat) = (-1)) → ∀ x1 : Int, x1 = w32 (l2 + 1) → ∀ x2 : Int, x2 = w32 (l3 + 1) → mW G X YX12_has μ 192 [some (vR 34 0), some (vI a1), some (vI x1), some (vI x2)] []) ∧ ((μ 34 50 l3.toNat = (-1)) → ∀ x3 : Int, x3 = w32 (l2 + 0) → ∀ x4 : Int, x4 = w32 (l3 + 1) → mW G X YX12_has μ 192 [some (vR 34 0), some (vI a1), some (vI x3), some (vI x4)] []))) :
    mW G X YX12_has μ 192 [some (vR 34 0), some (vI a1), some (vI l2), some (vI l3)] [] := by
  refine m_iload_n C dX12_has_192 rfl ?_
  refine m_aload_n C dX12_has_193 rfl ?_
  refine f_getA C dX12_has_194 fl_KilnBenchModel_63 rfl (by decide) (by decide) (by decide) (by decide) ?_
  refine m_aload_n C dX12_has_197 rfl ?_
  refine f_getI C dX12_has_198 fl_KilnBenchModel_51 rfl (by decide) (by decide) ?_
  obtain ⟨hb, h⟩ := h
  refine f_iald C dX12_has_201 (m_arO (a := 0) (len := 2) rfl rfl) (by decide) hb ?_
  refine m_icmp_ge (tgt := 229) C dX12_has_202 (by decide) (fun c => ?_) (fun c => ?_)
  · have h := h.1 c
    refine m_iload_n C dX12_has_229 rfl ?_
    exact f_iret C R rfl dX12_has_230 h
  · have h := h.2 c
    refine m_iload_n C dX12_has_205 rfl ?_
    refine m_aload_n C dX12_has_206 rfl ?_
    refine f_getA C dX12_has_207 fl_KilnBenchModel_162 rfl (by decide) (by decide) (by decide) (by decide) ?_
    refine m_iload_n C dX12_has_210 rfl ?_
    obtain ⟨hb, h⟩ := h
    refine f_iald C dX12_has_211 (m_arO (a := 0) (len := 66) rfl rfl) (by decide) hb ?_
    refine m_iconst C dX12_has_212 (by unfold in32; omega) ?_
    refine m_icmp_ne (tgt := 220) C dX12_has_213 (by decide) (fun c => ?_) (fun c => ?_)
    · have h := h.1 c
      refine m_iconst C dX12_has_220 (by unfold in32; omega) ?_
      refine m_iadd C dX12_has_221 ?_
      refine n_istore_n (fun x1 => [some (vR 34 0), some (vI a1), some (vI x1), some (vI l3)]) C dX12_has_222 (by decide) (fun _ => rfl) (fun x1 ex1 => ?_)
      have h := h x1 ex1
      refine n_iinc (fun x2 => [some (vR 34 0), some (vI a1), some (vI x1), some (vI x2)]) C dX12_has_223 rfl (by decide) (fun _ => rfl) (fun x2 ex2 => ?_)
      have h := h x2 ex2
      refine m_goto (tgt := 192) C dX12_has_226 (by decide) ?_
      exact h
    · have h := h.2 c
      refine m_iconst C dX12_has_216 (by unfold in32; omega) ?_
      refine m_goto (tgt := 221) C dX12_has_217 (by decide) ?_
      refine m_iadd C dX12_has_221 ?_
      refine n_istore_n (fun x3 => [some (vR 34 0), some (vI a1), some (vI x3), some (vI l3)]) C dX12_has_222 (by decide) (fun _ => rfl) (fun x3 ex3 => ?_)
      have h := h x3 ex3
      refine n_iinc (fun x4 => [some (vR 34 0), some (vI a1), some (vI x3), some (vI x4)]) C dX12_has_223 rfl (by decide) (fun _ => rfl) (fun x4 ex4 => ?_)
      have h := h x4 ex4
      refine m_goto (tgt := 192) C dX12_has_226 (by decide) ?_
      exact h

set_option maxRecDepth 20000 in
theorem VX12_letter_0 {G : m_G} {X : m_X} {d : Nat} {K : Int → m_M → Prop} (C : mC G X YX12_letter (d + 1)) (R : r_i G X K) {μ : m_M} {a1 : Int} {a2 : Int} {a3 : Int}
    (h : ((¬ a1 = 0) → ((¬ a1 = 1) → mW G X YX12_letter μ 29 [some (vR 34 0), some (vI a1), some (vI a2), some (vI a3), none, none, none, none, none, none] []) ∧ ((a1 = 1) → c_i G d YX12_isKiln [vR 34 0, vI a2] μ (fun r2 μ1 => ((r2 = 0) → mW G X YX12_letter μ1 29 [some (vR 34 0), some (vI a1), some (vI a2), some (vI a3), none, none, none, none, none, none] []) ∧ ((¬ r2 = 0) → c_i G d YX12_is [vI a3, vI 0, vI 5] μ1 (fun r5 μ4 => ((¬ r5 = 0) → ((¬ a1 = 0) → (0 ≤ w32 ((w32 (3 * (μ4 34 0 13))) + a2) ∧ w32 ((w32 (3 * (μ4 34 0 13))) + a2) < 6) ∧ ∀ x6 : Int, x6 = μ4 34 28 (w32 ((w32 (3 * (μ4 34 0 13))) + a2)).toNat → mW G X YX12_letter μ4 91 [some (vR 34 0), some (vI a1), some (vI a2), some (vI a3), some (vI 1), some (vJ x6), none, some (vI 0), some (vJ x6), none] []) ∧ ((a1 = 0) → (0 ≤ w32 ((w32 (8 * (μ4 34 0 13))) + a2) ∧ w32 ((w32 (8 * (μ4 34 0 13))) + a2) < 16) ∧ ∀ x9 : Int, x9 = μ4 34 27 (w32 ((w32 (8 * (μ4 34 0 13))) + a2)).toNat → mW G X YX12_letter μ4 91 [some (vR 34 0), some (vI a1), some (vI a2), some (vI a3), some (vI 1), some (vJ x9), none, some (vI 0), some (vJ x9), none] [])) ∧ ((r5 = 0) → K (-1) μ4)))))) ∧ ((a1 = 0) → c_i G d YX12_isChild [vR 34 0, vI a2] μ (fun r13 μ12 => ((r13 = 0) → K (-1) μ12) ∧ ((¬ r13 = 0) → c_i G d YX12_is [vI a3, vI 0, vI 5] μ12 (fun r16 μ15 => ((¬ r16 = 0) → ((¬ a1 = 0) → (0 ≤ w32 ((w32 (3 * (μ15 34 0 13))) + a2) ∧ w32 ((w32 (3 * (μ15 34 0 13))) + a2) < 6) ∧ ∀ x17 : Int, x17 = μ15 34 28 (w32 ((w32 (3 * (μ15 34 0 13))) + a2)).toNat → mW G X YX12_letter μ15 91 [some (vR 34 0), some (vI a1), some (vI a2), some (vI a3), some (vI r13), some (vJ x17), none, some (vI 0), some (vJ x17), none] []) ∧ ((a1 = 0) → (0 ≤ w32 ((w32 (8 * (μ15 34 0 13))) + a2) ∧ w32 ((w32 (8 * (μ15 34 0 13))) + a2) < 16) ∧ ∀ x20 : Int, x20 = μ15 34 27 (w32 ((w32 (8 * (μ15 34 0 13))) + a2)).toNat → mW G X YX12_letter μ15 91 [some (vR 34 0), some (vI a1), some (vI a2), some (vI a3), some (vI r13), some (vJ x20), none, some (vI 0), some (vJ x20), none] [])) ∧ ((r16 = 0) → K (-1) μ15)))))) :
    mW G X YX12_letter μ 0 [some (vR 34 0), some (vI a1), some (vI a2), some (vI a3), none, none, none, none, none, none] [] := by
  refine m_iload_n C dX12_letter_0 rfl ?_
  refine m_if_ne (tgt := 12) C dX12_letter_1 (by decide) (fun c => ?_) (fun c => ?_)
  · have h := h.1 c
    refine m_iload_n C dX12_letter_12 rfl ?_
    refine m_iconst C dX12_letter_13 (by unfold in32; omega) ?_
    refine m_icmp_ne (tgt := 29) C dX12_letter_14 (by decide) (fun c => ?_) (fun c => ?_)
    · have h := h.1 c
      exact h
    · have h := h.2 c
      refine m_aload_n C dX12_letter_17 rfl ?_
      refine m_iload_n C dX12_letter_18 rfl ?_
      refine f_callVi (As := [vI a2]) (st := []) C dX12_letter_19 ml_KilnBenchModel_447 rfl (by decide) rfl rfl rfl (Nat.le_of_ble_eq_true rfl) h (fun r2 μ1 h => ?_)
      refine m_if_eq (tgt := 29) C dX12_letter_22 (by decide) (fun c => ?_) (fun c => ?_)
      · have h := h.1 c
        exact h
      · have h := h.2 c
        refine m_iconst C dX12_letter_25 (by unfold in32; omega) ?_
        refine m_goto (tgt := 30) C dX12_letter_26 (by decide) ?_
        refine o_istore [some (vR 34 0), some (vI a1), some (vI a2), some (vI a3), some (vI 1), none, none, none, none, none] C dX12_letter_30 (by decide) rfl ?_
        refine m_iload C dX12_letter_32 rfl ?_
        refine m_if_eq (tgt := 46) C dX12_letter_34 (by decide) (fun c => absurd c (by decide)) (fun c => ?_)
        refine m_iload_n C dX12_letter_37 rfl ?_
        refine m_iconst C dX12_letter_38 (by unfold in32; omega) ?_
        refine m_iconst C dX12_letter_39 (by unfold in32; omega) ?_
        refine f_callSi (As := [vI a3, vI 0, vI 5]) (st := []) C dX12_letter_40 ml_KilnBenchModel_296 rfl rfl (Nat.le_of_ble_eq_true rfl) h (fun r5 μ4 h => ?_)
        refine m_if_ne (tgt := 48) C dX12_letter_43 (by decide) (fun c => ?_) (fun c => ?_)
        · have h := h.1 c
          refine m_iload_n C dX12_letter_48 rfl ?_
          refine m_if_ne (tgt := 69) C dX12_letter_49 (by decide) (fun c => ?_) (fun c => ?_)
          · have h := h.1 c
            refine m_aload_n C dX12_letter_69 rfl ?_
            refine f_getA C dX12_letter_70 fl_KilnBenchModel_94 rfl (by decide) (by decide) (by decide) (by decide) ?_
            refine m_iconst C dX12_letter_73 (by unfold in32; omega) ?_
            refine m_aload_n C dX12_letter_74 rfl ?_
            refine f_getI C dX12_letter_75 fl_KilnBenchModel_51 rfl (by decide) (by decide) ?_
            refine m_imul C dX12_letter_78 ?_
            refine m_iload_n C dX12_letter_79 rfl ?_
            refine m_iadd C dX12_letter_80 ?_
            obtain ⟨hb, h⟩ := h
            refine f_lald C dX12_letter_81 (m_arO (a := 3) (len := 6) rfl rfl) (by decide) hb ?_
            refine n_lstore (fun x6 => [some (vR 34 0), some (vI a1), some (vI a2), some (vI a3), some (vI 1), some (vJ x6), none, none, none, none]) C dX12_letter_82 (by decide) (fun _ => rfl) (fun x6 ex6 => ?_)
            have h := h x6 ex6
            refine m_iconst C dX12_letter_84 (by unfold in32; omega) ?_
            refine o_istore [some (vR 34 0), some (vI a1), some (vI a2), some (vI a3), some (vI 1), some (vJ x6), none, some (vI 0), none, none] C dX12_letter_85 (by decide) rfl ?_
            refine m_lload C dX12_letter_87 rfl ?_
            refine o_lstore [some (vR 34 0), some (vI a1), some (vI a2), some (vI a3), some (vI 1), some (vJ x6), none, some (vI 0), some (vJ x6), none] C dX12_letter_89 (by decide) rfl ?_
            exact h
          · have h := h.2 c
            refine m_aload_n C dX12_letter_52 rfl ?_
            refine f_getA C dX12_letter_53 fl_KilnBenchModel_90 rfl (by decide) (by decide) (by decide) (by decide) ?_
            refine m_bipush C dX12_letter_56 (by omega) ?_
            refine m_aload_n C dX12_letter_58 rfl ?_
            refine f_getI C dX12_letter_59 fl_KilnBenchModel_51 rfl (by decide) (by decide) ?_
            refine m_imul C dX12_letter_62 ?_
            refine m_iload_n C dX12_letter_63 rfl ?_
            refine m_iadd C dX12_letter_64 ?_
            obtain ⟨hb, h⟩ := h
            refine f_lald C dX12_letter_65 (m_arO (a := 3) (len := 16) rfl rfl) (by decide) hb ?_
            refine m_goto (tgt := 82) C dX12_letter_66 (by decide) ?_
            refine n_lstore (fun x9 => [some (vR 34 0), some (vI a1), some (vI a2), some (vI a3), some (vI 1), some (vJ x9), none, none, none, none]) C dX12_letter_82 (by decide) (fun _ => rfl) (fun x9 ex9 => ?_)
            have h := h x9 ex9
            refine m_iconst C dX12_letter_84 (by unfold in32; omega) ?_
            refine o_istore [some (vR 34 0), some (vI a1), some (vI a2), some (vI a3), some (vI 1), some (vJ x9), none, some (vI 0), none, none] C dX12_letter_85 (by decide) rfl ?_
            refine m_lload C dX12_letter_87 rfl ?_
            refine o_lstore [some (vR 34 0), some (vI a1), some (vI a2), some (vI a3), some (vI 1), some (vJ x9), none, some (vI 0), some (vJ x9), none] C dX12_letter_89 (by decide) rfl ?_
            exact h
        · have h := h.2 c
          refine m_iconst C dX12_letter_46 (by unfold in32; omega) ?_
          exact f_iret C R rfl dX12_letter_47 h
  · have h := h.2 c
    refine m_aload_n C dX12_letter_4 rfl ?_
    refine m_iload_n C dX12_letter_5 rfl ?_
    refine f_callVi (As := [vI a2]) (st := []) C dX12_letter_6 ml_KilnBenchModel_453 rfl (by decide) rfl rfl rfl (Nat.le_of_ble_eq_true rfl) h (fun r13 μ12 h => ?_)
    refine m_goto (tgt := 30) C dX12_letter_9 (by decide) ?_
    refine o_istore [some (vR 34 0), some (vI a1), some (vI a2), some (vI a3), some (vI r13), none, none, none, none, none] C dX12_letter_30 (by decide) rfl ?_
    refine m_iload C dX12_letter_32 rfl ?_
    refine m_if_eq (tgt := 46) C dX12_letter_34 (by decide) (fun c => ?_) (fun c => ?_)
    · have h := h.1 c
      refine m_iconst C dX12_letter_46 (by unfold in32; omega) ?_
      exact f_iret C R rfl dX12_letter_47 h
    · have h := h.2 c
      refine m_iload_n C dX12_letter_37 rfl ?_
      refine m_iconst C dX12_letter_38 (by unfold in32; omega) ?_
      refine m_iconst C dX12_letter_39 (by unfold in32; omega) ?_
      refine f_callSi (As := [vI a3, vI 0, vI 5]) (st := []) C dX12_letter_40 ml_KilnBenchModel_296 rfl rfl (Nat.le_of_ble_eq_true rfl) h (fun r16 μ15 h => ?_)
      refine m_if_ne (tgt := 48) C dX12_letter_43 (by decide) (fun c => ?_) (fun c => ?_)
      · have h := h.1 c
        refine m_iload_n C dX12_letter_48 rfl ?_
        refine m_if_ne (tgt := 69) C dX12_letter_49 (by decide) (fun c => ?_) (fun c => ?_)
        · have h := h.1 c
          refine m_aload_n C dX12_letter_69 rfl ?_
          refine f_getA C dX12_letter_70 fl_KilnBenchModel_94 rfl (by decide) (by decide) (by decide) (by decide) ?_
          refine m_iconst C dX12_letter_73 (by unfold in32; omega) ?_
          refine m_aload_n C dX12_letter_74 rfl ?_
          refine f_getI C dX12_letter_75 fl_KilnBenchModel_51 rfl (by decide) (by decide) ?_
          refine m_imul C dX12_letter_78 ?_
          refine m_iload_n C dX12_letter_79 rfl ?_
          refine m_iadd C dX12_letter_80 ?_
          obtain ⟨hb, h⟩ := h
          refine f_lald C dX12_letter_81 (m_arO (a := 3) (len := 6) rfl rfl) (by decide) hb ?_
          refine n_lstore (fun x17 => [some (vR 34 0), some (vI a1), some (vI a2), some (vI a3), some (vI r13), some (vJ x17), none, none, none, none]) C dX12_letter_82 (by decide) (fun _ => rfl) (fun x17 ex17 => ?_)
          have h := h x17 ex17
          refine m_iconst C dX12_letter_84 (by unfold in32; omega) ?_
          refine o_istore [some (vR 34 0), some (vI a1), some (vI a2), some (vI a3), some (vI r13), some (vJ x17), none, some (vI 0), none, none] C dX12_letter_85 (by decide) rfl ?_
          refine m_lload C dX12_letter_87 rfl ?_
          refine o_lstore [some (vR 34 0), some (vI a1), some (vI a2), some (vI a3), some (vI r13), some (vJ x17), none, some (vI 0), some (vJ x17), none] C dX12_letter_89 (by decide) rfl ?_
          exact h
        · have h := h.2 c
          refine m_aload_n C dX12_letter_52 rfl ?_
          refine f_getA C dX12_letter_53 fl_KilnBenchModel_90 rfl (by decide) (by decide) (by decide) (by decide) ?_
          refine m_bipush C dX12_letter_56 (by omega) ?_
          refine m_aload_n C dX12_letter_58 rfl ?_
          refine f_getI C dX12_letter_59 fl_KilnBenchModel_51 rfl (by decide) (by decide) ?_
          refine m_imul C dX12_letter_62 ?_
          refine m_iload_n C dX12_letter_63 rfl ?_
          refine m_iadd C dX12_letter_64 ?_
          obtain ⟨hb, h⟩ := h
          refine f_lald C dX12_letter_65 (m_arO (a := 3) (len := 16) rfl rfl) (by decide) hb ?_
          refine m_goto (tgt := 82) C dX12_letter_66 (by decide) ?_
          refine n_lstore (fun x20 => [some (vR 34 0), some (vI a1), some (vI a2), some (vI a3), some (vI r13), some (vJ x20), none, none, none, none]) C dX12_letter_82 (by decide) (fun _ => rfl) (fun x20 ex20 => ?_)
          have h := h x20 ex20
          refine m_iconst C dX12_letter_84 (by unfold in32; omega) ?_
          refine o_istore [some (vR 34 0), some (vI a1), some (vI a2), some (vI a3), some (vI r13), some (vJ x20), none, some (vI 0), none, none] C dX12_letter_85 (by decide) rfl ?_
          refine m_lload C dX12_letter_87 rfl ?_
          refine o_lstore [some (vR 34 0), some (vI a1), some (vI a2), some (vI a3), some (vI r13), some (vJ x20), none, some (vI 0), some (vJ x20), none] C dX12_letter_89 (by decide) rfl ?_
          exact h
      · have h := h.2 c
        refine m_iconst C dX12_letter_46 (by unfold in32; omega) ?_
        exact f_iret C R rfl dX12_letter_47 h

set_option maxRecDepth 20000 in
theorem VX12_letter_29 {G : m_G} {X : m_X} {d : Nat} {K : Int → m_M → Prop} (C : mC G X YX12_letter (d + 1)) (R : r_i G X K) {μ : m_M} {a1 : Int} {a2 : Int} {a3 : Int}
    (h : K (-1) μ) :
    mW G X YX12_letter μ 29 [some (vR 34 0), some (vI a1), some (vI a2), some (vI a3), none, none, none, none, none, none] [] := by
  refine m_iconst C dX12_letter_29 (by unfold in32; omega) ?_
  refine o_istore [some (vR 34 0), some (vI a1), some (vI a2), some (vI a3), some (vI 0), none, none, none, none, none] C dX12_letter_30 (by decide) rfl ?_
  refine m_iload C dX12_letter_32 rfl ?_
  refine m_if_eq (tgt := 46) C dX12_letter_34 (by decide) (fun c => ?_) (fun c => absurd c (by decide))
  refine m_iconst C dX12_letter_46 (by unfold in32; omega) ?_
  exact f_iret C R rfl dX12_letter_47 h

set_option maxRecDepth 20000 in
theorem VX12_letter_91 {G : m_G} {X : m_X} {d : Nat} {K : Int → m_M → Prop} (C : mC G X YX12_letter (d + 1)) (R : r_i G X K) {μ : m_M} {a1 : Int} {a2 : Int} {a3 : Int} {l4 : Int} {l5 : Int} {l7 : Int} {l8 : Int}
    (h : ((l_cmp l8 0 ≤ 0) → ((a3 < l7) → K (w32 ((w32 ((w32 (l_and (l_shr l5 (w32 (8 * (w32 ((w32 (l7 - 1)) - a3))))) 255)) - 97)) + 1)) μ) ∧ ((¬ a3 < l7) → K 0 μ)) ∧ ((¬ l_cmp l8 0 ≤ 0) → ∀ x1 : Int, x1 = w32 (l7 + 1) → ∀ x2 : Int, x2 = l_shr l8 8 → mW G X YX12_letter μ 91 [some (vR 34 0), some (vI a1), some (vI a2), some (vI a3), some (vI l4), some (vJ l5), none, some (vI x1), some (vJ x2), none] [])) :
    mW G X YX12_letter μ 91 [some (vR 34 0), some (vI a1), some (vI a2), some (vI a3), some (vI l4), some (vJ l5), none, some (vI l7), some (vJ l8), none] [] := by
  refine m_lload C dX12_letter_91 rfl ?_
  refine m_lconst (x := 0) C dX12_letter_93 rfl ?_
  refine m_lcmp C dX12_letter_94 ?_
  refine m_if_le (tgt := 111) C dX12_letter_95 (by decide) (fun c => ?_) (fun c => ?_)
  · have h := h.1 c
    refine m_iload_n C dX12_letter_111 rfl ?_
    refine m_iload C dX12_letter_112 rfl ?_
    refine m_icmp_lt (tgt := 121) C dX12_letter_114 (by decide) (fun c => ?_) (fun c => ?_)
    · have h := h.1 c
      refine m_lload C dX12_letter_121 rfl ?_
      refine m_bipush C dX12_letter_123 (by omega) ?_
      refine m_iload C dX12_letter_125 rfl ?_
      refine m_iconst C dX12_letter_127 (by unfold in32; omega) ?_
      refine m_isub C dX12_letter_128 ?_
      refine m_iload_n C dX12_letter_129 rfl ?_
      refine m_isub C dX12_letter_130 ?_
      refine m_imul C dX12_letter_131 ?_
      refine m_lshr C dX12_letter_132 ?_
      refine m_ldc2 (x := 255) C dX12_letter_133 lc_KilnBenchModel_456 rfl ?_
      refine m_land C dX12_letter_136 ?_
      refine m_l2i C dX12_letter_137 ?_
      refine m_bipush C dX12_letter_138 (by omega) ?_
      refine m_isub C dX12_letter_140 ?_
      refine m_iconst C dX12_letter_141 (by unfold in32; omega) ?_
      refine m_iadd C dX12_letter_142 ?_
      exact f_iret C R rfl dX12_letter_143 h
    · have h := h.2 c
      refine m_iconst C dX12_letter_117 (by unfold in32; omega) ?_
      refine m_goto (tgt := 143) C dX12_letter_118 (by decide) ?_
      exact f_iret C R rfl dX12_letter_143 h
  · have h := h.2 c
    refine n_iinc (fun x1 => [some (vR 34 0), some (vI a1), some (vI a2), some (vI a3), some (vI l4), some (vJ l5), none, some (vI x1), some (vJ l8), none]) C dX12_letter_98 rfl (by decide) (fun _ => rfl) (fun x1 ex1 => ?_)
    have h := h x1 ex1
    refine m_lload C dX12_letter_101 rfl ?_
    refine m_bipush C dX12_letter_103 (by omega) ?_
    refine m_lshr C dX12_letter_105 ?_
    refine n_lstore (fun x2 => [some (vR 34 0), some (vI a1), some (vI a2), some (vI a3), some (vI l4), some (vJ l5), none, some (vI x1), some (vJ x2), none]) C dX12_letter_106 (by decide) (fun _ => rfl) (fun x2 ex2 => ?_)
    have h := h x2 ex2
    refine m_goto (tgt := 91) C dX12_letter_108 (by decide) ?_
    exact h

set_option maxRecDepth 20000 in
theorem VX12_child_0 {G : m_G} {X : m_X} {d : Nat} {K : Int → m_M → Prop} (C : mC G X YX12_child (d + 1)) (R : r_i G X K) {μ : m_M} {a1 : Int} {a2 : Int}
    (h : c_i G d YX12_isChild [vR 34 0, vI a1] μ (fun r2 μ1 => ((¬ r2 = 0) → ((a2 = 0) → (0 ≤ w32 ((w32 (8 * (μ1 34 0 13))) + a1) ∧ w32 ((w32 (8 * (μ1 34 0 13))) + a1) < 16) ∧ K (μ1 34 16 (w32 ((w32 (8 * (μ1 34 0 13))) + a1)).toNat) μ1) ∧ ((a2 = 1) → (0 ≤ w32 ((w32 (8 * (μ1 34 0 13))) + a1) ∧ w32 ((w32 (8 * (μ1 34 0 13))) + a1) < 16) ∧ K (μ1 34 17 (w32 ((w32 (8 * (μ1 34 0 13))) + a1)).toNat) μ1) ∧ ((a2 = 2) → (0 ≤ a1 ∧ a1 < 176) ∧ K (μ1 34 45 a1.toNat) μ1) ∧ ((a2 = 3) → (0 ≤ a1 ∧ a1 < 176) ∧ K (μ1 34 46 a1.toNat) μ1) ∧ ((a2 = 4) → (0 ≤ a1 ∧ a1 < 176) ∧ ((¬ (μ1 34 47 a1.toNat) = (-1)) → K 1 μ1) ∧ ((μ1 34 47 a1.toNat = (-1)) → K 0 μ1)) ∧ ((a2 = 5) → (0 ≤ a1 ∧ a1 < 176) ∧ K (μ1 34 47 a1.toNat) μ1) ∧ ((a2 = 6) → c_i G d YX12_has2 [vI (μ1 34 49 0), vI a1] μ1 (fun r4 μ3 => ((r4 = 0) → K 0 μ3) ∧ ((¬ r4 = 0) → K 1 μ3))) ∧ (((a2 < 0 ∨ 6 < a2)) → K (-1) μ1)) ∧ ((r2 = 0) → K (-1) μ1))) :
    mW G X YX12_child μ 0 [some (vR 34 0), some (vI a1), some (vI a2)] [] := by
  refine m_aload_n C dX12_child_0 rfl ?_
  refine m_iload_n C dX12_child_1 rfl ?_
  refine f_callVi (As := [vI a1]) (st := []) C dX12_child_2 ml_KilnBenchModel_453 rfl (by decide) rfl rfl rfl (Nat.le_of_ble_eq_true rfl) h (fun r2 μ1 h => ?_)
  refine m_if_ne (tgt := 10) C dX12_child_5 (by decide) (fun c => ?_) (fun c => ?_)
  · have h := h.1 c
    refine m_iload_n C dX12_child_10 rfl ?_
    by_cases hx : a2 < 0 ∨ 6 < a2
    · have h := h.2.2.2.2.2.2.2 (by omega)
      refine m_swOut (tgt := 138) C dX12_child_11 hx (by decide) ?_
      refine m_iconst C dX12_child_138 (by unfold in32; omega) ?_
      exact f_iret C R rfl dX12_child_139 h
    · have hx : a2 = 0 ∨ a2 = 1 ∨ a2 = 2 ∨ a2 = 3 ∨ a2 = 4 ∨ a2 = 5 ∨ a2 = 6 := by omega
      rcases hx with hx | hx | hx | hx | hx | hx | hx
      · have h := h.1 hx
        refine m_swIn (tgt := 52) (off := 41) C dX12_child_11 (by omega) (by omega) (by rw [hx]; rfl) (by decide) ?_
        refine m_aload_n C dX12_child_52 rfl ?_
        refine f_getA C dX12_child_53 fl_KilnBenchModel_57 rfl (by decide) (by decide) (by decide) (by decide) ?_
        refine m_bipush C dX12_child_56 (by omega) ?_
        refine m_aload_n C dX12_child_58 rfl ?_
        refine f_getI C dX12_child_59 fl_KilnBenchModel_51 rfl (by decide) (by decide) ?_
        refine m_imul C dX12_child_62 ?_
        refine m_iload_n C dX12_child_63 rfl ?_
        refine m_iadd C dX12_child_64 ?_
        obtain ⟨hb, h⟩ := h
        refine f_iald C dX12_child_65 (m_arO (a := 0) (len := 16) rfl rfl) (by decide) hb ?_
        exact f_iret C R rfl dX12_child_66 h
      · have h := h.2.1 hx
        refine m_swIn (tgt := 67) (off := 56) C dX12_child_11 (by omega) (by omega) (by rw [hx]; rfl) (by decide) ?_
        refine m_aload_n C dX12_child_67 rfl ?_
        refine f_getA C dX12_child_68 fl_KilnBenchModel_60 rfl (by decide) (by decide) (by decide) (by decide) ?_
        refine m_bipush C dX12_child_71 (by omega) ?_
        refine m_aload_n C dX12_child_73 rfl ?_
        refine f_getI C dX12_child_74 fl_KilnBenchModel_51 rfl (by decide) (by decide) ?_
        refine m_imul C dX12_child_77 ?_
        refine m_iload_n C dX12_child_78 rfl ?_
        refine m_iadd C dX12_child_79 ?_
        obtain ⟨hb, h⟩ := h
        refine f_iald C dX12_child_80 (m_arO (a := 0) (len := 16) rfl rfl) (by decide) hb ?_
        exact f_iret C R rfl dX12_child_81 h
      · have h := h.2.2.1 hx
        refine m_swIn (tgt := 82) (off := 71) C dX12_child_11 (by omega) (by omega) (by rw [hx]; rfl) (by decide) ?_
        refine m_aload_n C dX12_child_82 rfl ?_
        refine f_getA C dX12_child_83 fl_KilnBenchModel_147 rfl (by decide) (by decide) (by decide) (by decide) ?_
        refine m_iload_n C dX12_child_86 rfl ?_
        obtain ⟨hb, h⟩ := h
        refine f_iald C dX12_child_87 (m_arO (a := 0) (len := 176) rfl rfl) (by decide) hb ?_
        exact f_iret C R rfl dX12_child_88 h
      · have h := h.2.2.2.1 hx
        refine m_swIn (tgt := 89) (off := 78) C dX12_child_11 (by omega) (by omega) (by rw [hx]; rfl) (by decide) ?_
        refine m_aload_n C dX12_child_89 rfl ?_
        refine f_getA C dX12_child_90 fl_KilnBenchModel_150 rfl (by decide) (by decide) (by decide) (by decide) ?_
        refine m_iload_n C dX12_child_93 rfl ?_
        obtain ⟨hb, h⟩ := h
        refine f_iald C dX12_child_94 (m_arO (a := 0) (len := 176) rfl rfl) (by decide) hb ?_
        exact f_iret C R rfl dX12_child_95 h
      · have h := h.2.2.2.2.1 hx
        refine m_swIn (tgt := 96) (off := 85) C dX12_child_11 (by omega) (by omega) (by rw [hx]; rfl) (by decide) ?_
        refine m_aload_n C dX12_child_96 rfl ?_
        refine f_getA C dX12_child_97 fl_KilnBenchModel_153 rfl (by decide) (by decide) (by decide) (by decide) ?_
        refine m_iload_n C dX12_child_100 rfl ?_
        obtain ⟨hb, h⟩ := h
        refine f_iald C dX12_child_101 (m_arO (a := 0) (len := 176) rfl rfl) (by decide) hb ?_
        refine m_iconst C dX12_child_102 (by unfold in32; omega) ?_
        refine m_icmp_ne (tgt := 110) C dX12_child_103 (by decide) (fun c => ?_) (fun c => ?_)
        · have h := h.1 c
          refine m_iconst C dX12_child_110 (by unfold in32; omega) ?_
          exact f_iret C R rfl dX12_child_111 h
        · have h := h.2 c
          refine m_iconst C dX12_child_106 (by unfold in32; omega) ?_
          refine m_goto (tgt := 111) C dX12_child_107 (by decide) ?_
          exact f_iret C R rfl dX12_child_111 h
      · have h := h.2.2.2.2.2.1 hx
        refine m_swIn (tgt := 112) (off := 101) C dX12_child_11 (by omega) (by omega) (by rw [hx]; rfl) (by decide) ?_
        refine m_aload_n C dX12_child_112 rfl ?_
        refine f_getA C dX12_child_113 fl_KilnBenchModel_153 rfl (by decide) (by decide) (by decide) (by decide) ?_
        refine m_iload_n C dX12_child_116 rfl ?_
        obtain ⟨hb, h⟩ := h
        refine f_iald C dX12_child_117 (m_arO (a := 0) (len := 176) rfl rfl) (by decide) hb ?_
        exact f_iret C R rfl dX12_child_118 h
      · have h := h.2.2.2.2.2.2.1 hx
        refine m_swIn (tgt := 119) (off := 108) C dX12_child_11 (by omega) (by omega) (by rw [hx]; rfl) (by decide) ?_
        refine m_aload_n C dX12_child_119 rfl ?_
        refine f_getA C dX12_child_120 fl_KilnBenchModel_159 rfl (by decide) (by decide) (by decide) (by decide) ?_
        refine m_iconst C dX12_child_123 (by unfold in32; omega) ?_
        refine f_iald C dX12_child_124 (m_arO (a := 0) (len := 22) rfl rfl) (by decide) (by decide) ?_
        refine m_iload_n C dX12_child_125 rfl ?_
        refine f_callSi (As := [vI (μ1 34 49 0), vI a1]) (st := []) C dX12_child_126 ml_KilnBenchModel_458 rfl rfl (Nat.le_of_ble_eq_true rfl) h (fun r4 μ3 h => ?_)
        refine m_if_eq (tgt := 136) C dX12_child_129 (by decide) (fun c => ?_) (fun c => ?_)
        · have h := h.1 c
          refine m_iconst C dX12_child_136 (by unfold in32; omega) ?_
          exact f_iret C R rfl dX12_child_137 h
        · have h := h.2 c
          refine m_iconst C dX12_child_132 (by unfold in32; omega) ?_
          refine m_goto (tgt := 137) C dX12_child_133 (by decide) ?_
          exact f_iret C R rfl dX12_child_137 h
  · have h := h.2 c
    refine m_iconst C dX12_child_8 (by unfold in32; omega) ?_
    exact f_iret C R rfl dX12_child_9 h

set_option maxRecDepth 20000 in
theorem VX12_kiln_0 {G : m_G} {X : m_X} {d : Nat} {K : Int → m_M → Prop} (C : mC G X YX12_kiln (d + 1)) (R : r_i G X K) {μ : m_M} {a1 : Int} {a2 : Int}
    (h : c_i G d YX12_isKiln [vR 34 0, vI a1] μ (fun r2 μ1 => ((¬ r2 = 0) → ((a2 = 0) → (0 ≤ w32 ((w32 (3 * (μ1 34 0 13))) + a1) ∧ w32 ((w32 (3 * (μ1 34 0 13))) + a1) < 6) ∧ K (μ1 34 19 (w32 ((w32 (3 * (μ1 34 0 13))) + a1)).toNat) μ1) ∧ ((a2 = 1) → c_i G d YX12_full [vR 34 0, vI 0, vI a1] μ1 (fun r4 μ3 => K r4 μ3)) ∧ ((a2 = 2) → (0 ≤ a1 ∧ a1 < 66) ∧ K (μ1 34 50 a1.toNat) μ1) ∧ ((a2 = 3) → (0 ≤ a1 ∧ a1 < 66) ∧ ((¬ (μ1 34 50 a1.toNat) = (-1)) → c_i G d YX12_burnt [vR 34 0, vI 0, vI a1] μ1 (fun r6 μ5 => K r6 μ5)) ∧ ((μ1 34 50 a1.toNat = (-1)) → K (-1) μ1)) ∧ (((a2 < 0 ∨ 3 < a2)) → K (-1) μ1)) ∧ ((r2 = 0) → K (-1) μ1))) :
    mW G X YX12_kiln μ 0 [some (vR 34 0), some (vI a1), some (vI a2)] [] := by
  refine m_aload_n C dX12_kiln_0 rfl ?_
  refine m_iload_n C dX12_kiln_1 rfl ?_
  refine f_callVi (As := [vI a1]) (st := []) C dX12_kiln_2 ml_KilnBenchModel_447 rfl (by decide) rfl rfl rfl (Nat.le_of_ble_eq_true rfl) h (fun r2 μ1 h => ?_)
  refine m_if_ne (tgt := 10) C dX12_kiln_5 (by decide) (fun c => ?_) (fun c => ?_)
  · have h := h.1 c
    refine m_iload_n C dX12_kiln_10 rfl ?_
    by_cases hx : a2 < 0 ∨ 3 < a2
    · have h := h.2.2.2.2 (by omega)
      refine m_swOut (tgt := 89) C dX12_kiln_11 hx (by decide) ?_
      refine m_iconst C dX12_kiln_89 (by unfold in32; omega) ?_
      exact f_iret C R rfl dX12_kiln_90 h
    · have hx : a2 = 0 ∨ a2 = 1 ∨ a2 = 2 ∨ a2 = 3 := by omega
      rcases hx with hx | hx | hx | hx
      · have h := h.1 hx
        refine m_swIn (tgt := 40) (off := 29) C dX12_kiln_11 (by omega) (by omega) (by rw [hx]; rfl) (by decide) ?_
        refine m_aload_n C dX12_kiln_40 rfl ?_
        refine f_getA C dX12_kiln_41 fl_KilnBenchModel_66 rfl (by decide) (by decide) (by decide) (by decide) ?_
        refine m_iconst C dX12_kiln_44 (by unfold in32; omega) ?_
        refine m_aload_n C dX12_kiln_45 rfl ?_
        refine f_getI C dX12_kiln_46 fl_KilnBenchModel_51 rfl (by decide) (by decide) ?_
        refine m_imul C dX12_kiln_49 ?_
        refine m_iload_n C dX12_kiln_50 rfl ?_
        refine m_iadd C dX12_kiln_51 ?_
        obtain ⟨hb, h⟩ := h
        refine f_iald C dX12_kiln_52 (m_arO (a := 0) (len := 6) rfl rfl) (by decide) hb ?_
        exact f_iret C R rfl dX12_kiln_53 h
      · have h := h.2.1 hx
        refine m_swIn (tgt := 54) (off := 43) C dX12_kiln_11 (by omega) (by omega) (by rw [hx]; rfl) (by decide) ?_
        refine m_aload_n C dX12_kiln_54 rfl ?_
        refine m_iconst C dX12_kiln_55 (by unfold in32; omega) ?_
        refine m_iload_n C dX12_kiln_56 rfl ?_
        refine f_callVi (As := [vI 0, vI a1]) (st := []) C dX12_kiln_57 ml_KilnBenchModel_422 rfl (by decide) rfl rfl rfl (Nat.le_of_ble_eq_true rfl) h (fun r4 μ3 h => ?_)
        exact f_iret C R rfl dX12_kiln_60 h
      · have h := h.2.2.1 hx
        refine m_swIn (tgt := 61) (off := 50) C dX12_kiln_11 (by omega) (by omega) (by rw [hx]; rfl) (by decide) ?_
        refine m_aload_n C dX12_kiln_61 rfl ?_
        refine f_getA C dX12_kiln_62 fl_KilnBenchModel_162 rfl (by decide) (by decide) (by decide) (by decide) ?_
        refine m_iload_n C dX12_kiln_65 rfl ?_
        obtain ⟨hb, h⟩ := h
        refine f_iald C dX12_kiln_66 (m_arO (a := 0) (len := 66) rfl rfl) (by decide) hb ?_
        exact f_iret C R rfl dX12_kiln_67 h
      · have h := h.2.2.2.1 hx
        refine m_swIn (tgt := 68) (off := 57) C dX12_kiln_11 (by omega) (by omega) (by rw [hx]; rfl) (by decide) ?_
        refine m_aload_n C dX12_kiln_68 rfl ?_
        refine f_getA C dX12_kiln_69 fl_KilnBenchModel_162 rfl (by decide) (by decide) (by decide) (by decide) ?_
        refine m_iload_n C dX12_kiln_72 rfl ?_
        obtain ⟨hb, h⟩ := h
        refine f_iald C dX12_kiln_73 (m_arO (a := 0) (len := 66) rfl rfl) (by decide) hb ?_
        refine m_iconst C dX12_kiln_74 (by unfold in32; omega) ?_
        refine m_icmp_ne (tgt := 82) C dX12_kiln_75 (by decide) (fun c => ?_) (fun c => ?_)
        · have h := h.1 c
          refine m_aload_n C dX12_kiln_82 rfl ?_
          refine m_iconst C dX12_kiln_83 (by unfold in32; omega) ?_
          refine m_iload_n C dX12_kiln_84 rfl ?_
          refine f_callVi (As := [vI 0, vI a1]) (st := []) C dX12_kiln_85 ml_KilnBenchModel_440 rfl (by decide) rfl rfl rfl (Nat.le_of_ble_eq_true rfl) h (fun r6 μ5 h => ?_)
          exact f_iret C R rfl dX12_kiln_88 h
        · have h := h.2 c
          refine m_iconst C dX12_kiln_78 (by unfold in32; omega) ?_
          refine m_goto (tgt := 88) C dX12_kiln_79 (by decide) ?_
          exact f_iret C R rfl dX12_kiln_88 h
  · have h := h.2 c
    refine m_iconst C dX12_kiln_8 (by unfold in32; omega) ?_
    exact f_iret C R rfl dX12_kiln_9 h

set_option maxRecDepth 20000 in
theorem VX12_place_0 {G : m_G} {X : m_X} {d : Nat} {K : Int → m_M → Prop} (C : mC G X YX12_place (d + 1)) (R : r_i G X K) {μ : m_M} {a1 : Int} {a2 : Int}
    (h : c_i G d YX12_isPlaceOf [vR 34 0, vI a1, vI a2] μ (fun r2 μ1 => ((r2 = 0) → K (-1) μ1) ∧ ((¬ r2 = 0) → c_i G d YX12_inPlace [vR 34 0, vI 0, vI a1, vI a2] μ1 (fun r4 μ3 => K r4 μ3)))) :
    mW G X YX12_place μ 0 [some (vR 34 0), some (vI a1), some (vI a2)] [] := by
  refine m_aload_n C dX12_place_0 rfl ?_
  refine m_iload_n C dX12_place_1 rfl ?_
  refine m_iload_n C dX12_place_2 rfl ?_
  refine f_callVi (As := [vI a1, vI a2]) (st := []) C dX12_place_3 ml_KilnBenchModel_462 rfl (by decide) rfl rfl rfl (Nat.le_of_ble_eq_true rfl) h (fun r2 μ1 h => ?_)
  refine m_if_eq (tgt := 19) C dX12_place_6 (by decide) (fun c => ?_) (fun c => ?_)
  · have h := h.1 c
    refine m_iconst C dX12_place_19 (by unfold in32; omega) ?_
    exact f_iret C R rfl dX12_place_20 h
  · have h := h.2 c
    refine m_aload_n C dX12_place_9 rfl ?_
    refine m_iconst C dX12_place_10 (by unfold in32; omega) ?_
    refine m_iload_n C dX12_place_11 rfl ?_
    refine m_iload_n C dX12_place_12 rfl ?_
    refine f_callVi (As := [vI 0, vI a1, vI a2]) (st := []) C dX12_place_13 ml_KilnBenchModel_425 rfl (by decide) rfl rfl rfl (Nat.le_of_ble_eq_true rfl) h (fun r4 μ3 h => ?_)
    refine m_goto (tgt := 20) C dX12_place_16 (by decide) ?_
    exact f_iret C R rfl dX12_place_20 h

set_option maxRecDepth 20000 in
theorem VX12_isRing_0 {G : m_G} {X : m_X} {d : Nat} {K : Int → m_M → Prop} (C : mC G X YX12_isRing (d + 1)) (R : r_i G X K) {μ : m_M} {a1 : Int} {a2 : Int} {a3 : Int}
    (h : c_i G d YX12_isChild [vR 34 0, vI a1] μ (fun r2 μ1 => ((r2 = 0) → K 0 μ1) ∧ ((¬ r2 = 0) → c_i G d YX12_is [vI a2, vI 0, vI 20] μ1 (fun r4 μ3 => ((r4 = 0) → K 0 μ3) ∧ ((¬ r4 = 0) → c_i G d YX12_is [vI a3, vI 0, vI 5] μ3 (fun r6 μ5 => ((r6 = 0) → K 0 μ5) ∧ ((¬ r6 = 0) → K 1 μ5))))))) :
    mW G X YX12_isRing μ 0 [some (vR 34 0), some (vI a1), some (vI a2), some (vI a3)] [] := by
  refine m_aload_n C dX12_isRing_0 rfl ?_
  refine m_iload_n C dX12_isRing_1 rfl ?_
  refine f_callVi (As := [vI a1]) (st := []) C dX12_isRing_2 ml_KilnBenchModel_453 rfl (by decide) rfl rfl rfl (Nat.le_of_ble_eq_true rfl) h (fun r2 μ1 h => ?_)
  refine m_if_eq (tgt := 31) C dX12_isRing_5 (by decide) (fun c => ?_) (fun c => ?_)
  · have h := h.1 c
    refine m_iconst C dX12_isRing_31 (by unfold in32; omega) ?_
    exact f_zret C R rfl dX12_isRing_32 (by decide) h
  · have h := h.2 c
    refine m_iload_n C dX12_isRing_8 rfl ?_
    refine m_iconst C dX12_isRing_9 (by unfold in32; omega) ?_
    refine m_bipush C dX12_isRing_10 (by omega) ?_
    refine f_callSi (As := [vI a2, vI 0, vI 20]) (st := []) C dX12_isRing_12 ml_KilnBenchModel_296 rfl rfl (Nat.le_of_ble_eq_true rfl) h (fun r4 μ3 h => ?_)
    refine m_if_eq (tgt := 31) C dX12_isRing_15 (by decide) (fun c => ?_) (fun c => ?_)
    · have h := h.1 c
      refine m_iconst C dX12_isRing_31 (by unfold in32; omega) ?_
      exact f_zret C R rfl dX12_isRing_32 (by decide) h
    · have h := h.2 c
      refine m_iload_n C dX12_isRing_18 rfl ?_
      refine m_iconst C dX12_isRing_19 (by unfold in32; omega) ?_
      refine m_iconst C dX12_isRing_20 (by unfold in32; omega) ?_
      refine f_callSi (As := [vI a3, vI 0, vI 5]) (st := []) C dX12_isRing_21 ml_KilnBenchModel_296 rfl rfl (Nat.le_of_ble_eq_true rfl) h (fun r6 μ5 h => ?_)
      refine m_if_eq (tgt := 31) C dX12_isRing_24 (by decide) (fun c => ?_) (fun c => ?_)
      · have h := h.1 c
        refine m_iconst C dX12_isRing_31 (by unfold in32; omega) ?_
        exact f_zret C R rfl dX12_isRing_32 (by decide) h
      · have h := h.2 c
        refine m_iconst C dX12_isRing_27 (by unfold in32; omega) ?_
        refine m_goto (tgt := 32) C dX12_isRing_28 (by decide) ?_
        exact f_zret C R rfl dX12_isRing_32 (by decide) h

set_option maxRecDepth 20000 in
theorem VX12_rings_0 {G : m_G} {X : m_X} {d : Nat} {K : Int → m_M → Prop} (C : mC G X YX12_rings (d + 1)) (R : r_i G X K) {μ : m_M} {a1 : Int} {a2 : Int} {a3 : Int}
    (h : c_i G d YX12_isRing [vR 34 0, vI a1, vI a2, vI a3] μ (fun r2 μ1 => ((r2 = 0) → K (-1) μ1) ∧ ((¬ r2 = 0) → c_i G d YX12_ring [vR 34 0, vI 0, vI a1, vI a2, vI a3] μ1 (fun r4 μ3 => K r4 μ3)))) :
    mW G X YX12_rings μ 0 [some (vR 34 0), some (vI a1), some (vI a2), some (vI a3)] [] := by
  refine m_aload_n C dX12_rings_0 rfl ?_
  refine m_iload_n C dX12_rings_1 rfl ?_
  refine m_iload_n C dX12_rings_2 rfl ?_
  refine m_iload_n C dX12_rings_3 rfl ?_
  refine f_callVi (As := [vI a1, vI a2, vI a3]) (st := []) C dX12_rings_4 ml_KilnBenchModel_465 rfl (by decide) rfl rfl rfl (Nat.le_of_ble_eq_true rfl) h (fun r2 μ1 h => ?_)
  refine m_if_eq (tgt := 21) C dX12_rings_7 (by decide) (fun c => ?_) (fun c => ?_)
  · have h := h.1 c
    refine m_iconst C dX12_rings_21 (by unfold in32; omega) ?_
    exact f_iret C R rfl dX12_rings_22 h
  · have h := h.2 c
    refine m_aload_n C dX12_rings_10 rfl ?_
    refine m_iconst C dX12_rings_11 (by unfold in32; omega) ?_
    refine m_iload_n C dX12_rings_12 rfl ?_
    refine m_iload_n C dX12_rings_13 rfl ?_
    refine m_iload_n C dX12_rings_14 rfl ?_
    refine f_callVi (As := [vI 0, vI a1, vI a2, vI a3]) (st := []) C dX12_rings_15 ml_KilnBenchModel_418 rfl (by decide) rfl rfl rfl (Nat.le_of_ble_eq_true rfl) h (fun r4 μ3 h => ?_)
    refine m_goto (tgt := 22) C dX12_rings_18 (by decide) ?_
    exact f_iret C R rfl dX12_rings_22 h

