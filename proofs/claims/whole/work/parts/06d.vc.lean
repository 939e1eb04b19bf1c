set_option maxRecDepth 20000 in
theorem VX6_parse_0 {G : m_G} {X : m_X} {d : Nat} {K : Int → m_M → Prop} (C : mC G X YX6_parse (d + 1)) (R : r_i G X K) {μ : m_M} {a2 : Int} {a3 : Nat} (hc_a3 : m_cls a3 = 9)
    (h : ∀ μ1 : m_M, μ1 = m_up μ 2 0 1 (100 * ((a3 : Nat) : Int) + ((0 : Nat) : Int)) → ∃ t2 : Nat, μ1 2 0 1 = 100 * (t2 : Int) ∧ m_cls t2 = 9 ∧ c_v G d YX10_clear [vR t2 0] μ1 (fun μ3 => ∀ μ4 : m_M, μ4 = m_up μ3 2 0 3 0 → c_v G d YX7_start [vR 3 0, vR 1 1, vI a2] μ4 (fun μ5 => mW G X YX6_parse μ5 29 [some (vR 2 0), some (vR 1 1), some (vI a2), some (vR a3 0), some (vI 0)] []))) :
    mW G X YX6_parse μ 0 [some (vR 2 0), some (vR 1 1), some (vI a2), some (vR a3 0), none] [] := by
  refine m_aload_n C dX6_parse_0 rfl ?_
  refine m_aload_n C dX6_parse_1 rfl ?_
  refine f_putR C dX6_parse_2 fl_KilnBench_Parser_25 rfl (by decide) (by decide) (by decide) (by decide) (m_cls0 hc_a3 (by decide)) ?_
  refine n_mem (fun μ1 eμ1 => ?_)
  have h := h μ1 eμ1
  refine m_aload_n C dX6_parse_5 rfl ?_
  obtain ⟨t2, hx_t2, hc_t2, h⟩ := h
  refine f_getR (t := t2) (w := 0) C dX6_parse_6 fl_KilnBench_Parser_25 rfl (by decide) (by decide) (by rw [hx_t2]; omega) (by decide) (m_cls0 hc_t2 (by decide)) ?_
  refine f_callVv (As := []) (st := []) C dX6_parse_9 ml_KilnBench_Parser_29 hc_t2 (by decide) rfl rfl rfl (Nat.le_of_ble_eq_true rfl) h (fun μ3 h => ?_)
  refine m_aload_n C dX6_parse_12 rfl ?_
  refine m_iconst C dX6_parse_13 (by unfold in32; omega) ?_
  refine f_putI C dX6_parse_14 fl_KilnBench_Parser_22 rfl (by decide) (by decide) (by decide) ?_
  refine n_mem (fun μ4 eμ4 => ?_)
  have h := h μ4 eμ4
  refine m_aload_n C dX6_parse_17 rfl ?_
  refine f_getO (t := 3) C dX6_parse_18 fl_KilnBench_Parser_12 rfl (by decide) (by decide) (by decide) (by decide) ?_
  refine m_aload_n C dX6_parse_21 rfl ?_
  refine m_iload_n C dX6_parse_22 rfl ?_
  refine f_callVv (As := [vR 1 1, vI a2]) (st := []) C dX6_parse_23 ml_KilnBench_Parser_34 rfl (by decide) rfl rfl rfl (Nat.le_of_ble_eq_true rfl) h (fun μ5 h => ?_)
  refine m_iconst C dX6_parse_26 (by unfold in32; omega) ?_
  refine o_istore [some (vR 2 0), some (vR 1 1), some (vI a2), some (vR a3 0), some (vI 0)] C dX6_parse_27 (by decide) rfl ?_
  exact h

set_option maxRecDepth 20000 in
theorem VX6_parse_29 {G : m_G} {X : m_X} {d : Nat} {K : Int → m_M → Prop} (C : mC G X YX6_parse (d + 1)) (R : r_i G X K) {μ : m_M} {a2 : Int} {a3 : Nat} {l4 : Int} (hc_a3 : m_cls a3 = 9)
    (h : ((80 ≤ l4) → ((¬ (μ 3 0 7) = 0) → K 0 μ) ∧ ((μ 3 0 7 = 0) → K 1 μ)) ∧ ((¬ 80 ≤ l4) → ((μ 3 0 4 = 284) → ((¬ (μ 3 0 7) = 0) → K 0 μ) ∧ ((μ 3 0 7 = 0) → K 1 μ)) ∧ ((¬ μ 3 0 4 = 284) → ((¬ (μ 3 0 7) = 0) → ((¬ (μ 3 0 7) = 0) → K 0 μ) ∧ ((μ 3 0 7 = 0) → K 1 μ)) ∧ ((μ 3 0 7 = 0) → c_v G d YX6_readStatement [vR 2 0] μ (fun μ1 => ∀ x2 : Int, x2 = w32 (l4 + 1) → mW G X YX6_parse μ1 29 [some (vR 2 0), some (vR 1 1), some (vI a2), some (vR a3 0), some (vI x2)] []))))) :
    mW G X YX6_parse μ 29 [some (vR 2 0), some (vR 1 1), some (vI a2), some (vR a3 0), some (vI l4)] [] := by
  refine m_iload C dX6_parse_29 rfl ?_
  refine m_bipush C dX6_parse_31 (by omega) ?_
  refine m_icmp_ge (tgt := 69) C dX6_parse_33 (by decide) (fun c => ?_) (fun c => ?_)
  · have h := h.1 c
    refine m_aload_n C dX6_parse_69 rfl ?_
    refine f_getO (t := 3) C dX6_parse_70 fl_KilnBench_Parser_12 rfl (by decide) (by decide) (by decide) (by decide) ?_
    refine f_getI C dX6_parse_73 fl_KilnBench_Parser_43 rfl (by decide) (by decide) ?_
    refine m_if_ne (tgt := 83) C dX6_parse_76 (by decide) (fun c => ?_) (fun c => ?_)
    · have h := h.1 c
      refine m_iconst C dX6_parse_83 (by unfold in32; omega) ?_
      exact f_zret C R rfl dX6_parse_84 (by decide) h
    · have h := h.2 c
      refine m_iconst C dX6_parse_79 (by unfold in32; omega) ?_
      refine m_goto (tgt := 84) C dX6_parse_80 (by decide) ?_
      exact f_zret C R rfl dX6_parse_84 (by decide) h
  · have h := h.2 c
    refine m_aload_n C dX6_parse_36 rfl ?_
    refine f_getO (t := 3) C dX6_parse_37 fl_KilnBench_Parser_12 rfl (by decide) (by decide) (by decide) (by decide) ?_
    refine f_getI C dX6_parse_40 fl_KilnBench_Parser_38 rfl (by decide) (by decide) ?_
    refine m_sipush C dX6_parse_43 (by omega) ?_
    refine m_icmp_eq (tgt := 69) C dX6_parse_46 (by decide) (fun c => ?_) (fun c => ?_)
    · have h := h.1 c
      refine m_aload_n C dX6_parse_69 rfl ?_
      refine f_getO (t := 3) C dX6_parse_70 fl_KilnBench_Parser_12 rfl (by decide) (by decide) (by decide) (by decide) ?_
      refine f_getI C dX6_parse_73 fl_KilnBench_Parser_43 rfl (by decide) (by decide) ?_
      refine m_if_ne (tgt := 83) C dX6_parse_76 (by decide) (fun c => ?_) (fun c => ?_)
      · have h := h.1 c
        refine m_iconst C dX6_parse_83 (by unfold in32; omega) ?_
        exact f_zret C R rfl dX6_parse_84 (by decide) h
      · have h := h.2 c
        refine m_iconst C dX6_parse_79 (by unfold in32; omega) ?_
        refine m_goto (tgt := 84) C dX6_parse_80 (by decide) ?_
        exact f_zret C R rfl dX6_parse_84 (by decide) h
    · have h := h.2 c
      refine m_aload_n C dX6_parse_49 rfl ?_
      refine f_getO (t := 3) C dX6_parse_50 fl_KilnBench_Parser_12 rfl (by decide) (by decide) (by decide) (by decide) ?_
      refine f_getI C dX6_parse_53 fl_KilnBench_Parser_43 rfl (by decide) (by decide) ?_
      refine m_if_ne (tgt := 69) C dX6_parse_56 (by decide) (fun c => ?_) (fun c => ?_)
      · have h := h.1 c
        refine m_aload_n C dX6_parse_69 rfl ?_
        refine f_getO (t := 3) C dX6_parse_70 fl_KilnBench_Parser_12 rfl (by decide) (by decide) (by decide) (by decide) ?_
        refine f_getI C dX6_parse_73 fl_KilnBench_Parser_43 rfl (by decide) (by decide) ?_
        refine m_if_ne (tgt := 83) C dX6_parse_76 (by decide) (fun c => ?_) (fun c => ?_)
        · have h := h.1 c
          refine m_iconst C dX6_parse_83 (by unfold in32; omega) ?_
          exact f_zret C R rfl dX6_parse_84 (by decide) h
        · have h := h.2 c
          refine m_iconst C dX6_parse_79 (by unfold in32; omega) ?_
          refine m_goto (tgt := 84) C dX6_parse_80 (by decide) ?_
          exact f_zret C R rfl dX6_parse_84 (by decide) h
      · have h := h.2 c
        refine m_aload_n C dX6_parse_59 rfl ?_
        refine f_callVv (As := []) (st := []) C dX6_parse_60 ml_KilnBench_Parser_46 rfl (by decide) rfl rfl rfl (Nat.le_of_ble_eq_true rfl) h (fun μ1 h => ?_)
        refine n_iinc (fun x2 => [some (vR 2 0), some (vR 1 1), some (vI a2), some (vR a3 0), some (vI x2)]) C dX6_parse_63 rfl (by decide) (fun _ => rfl) (fun x2 ex2 => ?_)
        have h := h x2 ex2
        refine m_goto (tgt := 29) C dX6_parse_66 (by decide) ?_
        exact h

set_option maxRecDepth 20000 in
theorem VX6_faultKind_0 {G : m_G} {X : m_X} {d : Nat} {K : Int → m_M → Prop} (C : mC G X YX6_faultKind (d + 1)) (R : r_i G X K) {μ : m_M}
    (h : K (μ 3 0 7) μ) :
    mW G X YX6_faultKind μ 0 [some (vR 2 0)] [] := by
  refine m_aload_n C dX6_faultKind_0 rfl ?_
  refine f_getO (t := 3) C dX6_faultKind_1 fl_KilnBench_Parser_12 rfl (by decide) (by decide) (by decide) (by decide) ?_
  refine f_getI C dX6_faultKind_4 fl_KilnBench_Parser_43 rfl (by decide) (by decide) ?_
  exact f_iret C R rfl dX6_faultKind_7 h

set_option maxRecDepth 20000 in
theorem VX6_faultPlace_0 {G : m_G} {X : m_X} {d : Nat} {K : Int → m_M → Prop} (C : mC G X YX6_faultPlace (d + 1)) (R : r_i G X K) {μ : m_M}
    (h : K (μ 3 0 8) μ) :
    mW G X YX6_faultPlace μ 0 [some (vR 2 0)] [] := by
  refine m_aload_n C dX6_faultPlace_0 rfl ?_
  refine f_getO (t := 3) C dX6_faultPlace_1 fl_KilnBench_Parser_12 rfl (by decide) (by decide) (by decide) (by decide) ?_
  refine f_getI C dX6_faultPlace_4 fl_KilnBench_Parser_49 rfl (by decide) (by decide) ?_
  exact f_iret C R rfl dX6_faultPlace_7 h

set_option maxRecDepth 20000 in
theorem VX6_beginsStatement_0 {G : m_G} {X : m_X} {d : Nat} {K : Int → m_M → Prop} (C : mC G X YX6_beginsStatement (d + 1)) (R : r_i G X K) {μ : m_M} {a1 : Int}
    (h : ((a1 = 256) → mW G X YX6_beginsStatement μ 14 [some (vI a1), none] []) ∧ ((¬ a1 = 256) → ((¬ a1 = 259) → ((a1 < 261) → K 0 μ) ∧ ((¬ a1 < 261) → ((267 < a1) → K 0 μ) ∧ ((¬ 267 < a1) → K 1 μ))) ∧ ((a1 = 259) → mW G X YX6_beginsStatement μ 14 [some (vI a1), none] []))) :
    mW G X YX6_beginsStatement μ 0 [some (vI a1), none] [] := by
  refine m_iload_n C dX6_beginsStatement_0 rfl ?_
  refine m_sipush C dX6_beginsStatement_1 (by omega) ?_
  refine m_icmp_eq (tgt := 14) C dX6_beginsStatement_4 (by decide) (fun c => ?_) (fun c => ?_)
  · have h := h.1 c
    exact h
  · have h := h.2 c
    refine m_iload_n C dX6_beginsStatement_7 rfl ?_
    refine m_sipush C dX6_beginsStatement_8 (by omega) ?_
    refine m_icmp_ne (tgt := 18) C dX6_beginsStatement_11 (by decide) (fun c => ?_) (fun c => ?_)
    · have h := h.1 c
      refine m_iconst C dX6_beginsStatement_18 (by unfold in32; omega) ?_
      refine o_istore_n [some (vI a1), some (vI 0)] C dX6_beginsStatement_19 (by decide) rfl ?_
      refine m_iload_n C dX6_beginsStatement_20 rfl ?_
      refine m_if_ne (tgt := 38) C dX6_beginsStatement_21 (by decide) (fun c => absurd c (by decide)) (fun c => ?_)
      refine m_iload_n C dX6_beginsStatement_24 rfl ?_
      refine m_sipush C dX6_beginsStatement_25 (by omega) ?_
      refine m_icmp_lt (tgt := 42) C dX6_beginsStatement_28 (by decide) (fun c => ?_) (fun c => ?_)
      · have h := h.1 c
        refine m_iconst C dX6_beginsStatement_42 (by unfold in32; omega) ?_
        exact f_zret C R rfl dX6_beginsStatement_43 (by decide) h
      · have h := h.2 c
        refine m_iload_n C dX6_beginsStatement_31 rfl ?_
        refine m_sipush C dX6_beginsStatement_32 (by omega) ?_
        refine m_icmp_gt (tgt := 42) C dX6_beginsStatement_35 (by decide) (fun c => ?_) (fun c => ?_)
        · have h := h.1 c
          refine m_iconst C dX6_beginsStatement_42 (by unfold in32; omega) ?_
          exact f_zret C R rfl dX6_beginsStatement_43 (by decide) h
        · have h := h.2 c
          refine m_iconst C dX6_beginsStatement_38 (by unfold in32; omega) ?_
          refine m_goto (tgt := 43) C dX6_beginsStatement_39 (by decide) ?_
          exact f_zret C R rfl dX6_beginsStatement_43 (by decide) h
    · have h := h.2 c
      exact h

set_option maxRecDepth 20000 in
theorem VX6_beginsStatement_14 {G : m_G} {X : m_X} {d : Nat} {K : Int → m_M → Prop} (C : mC G X YX6_beginsStatement (d + 1)) (R : r_i G X K) {μ : m_M} {a1 : Int}
    (h : K 1 μ) :
    mW G X YX6_beginsStatement μ 14 [some (vI a1), none] [] := by
  refine m_iconst C dX6_beginsStatement_14 (by unfold in32; omega) ?_
  refine m_goto (tgt := 19) C dX6_beginsStatement_15 (by decide) ?_
  refine o_istore_n [some (vI a1), some (vI 1)] C dX6_beginsStatement_19 (by decide) rfl ?_
  refine m_iload_n C dX6_beginsStatement_20 rfl ?_
  refine m_if_ne (tgt := 38) C dX6_beginsStatement_21 (by decide) (fun c => ?_) (fun c => absurd c (by decide))
  refine m_iconst C dX6_beginsStatement_38 (by unfold in32; omega) ?_
  refine m_goto (tgt := 43) C dX6_beginsStatement_39 (by decide) ?_
  exact f_zret C R rfl dX6_beginsStatement_43 (by decide) h

set_option maxRecDepth 20000 in
theorem VX6_readStatement_0 {G : m_G} {X : m_X} {d : Nat} {K : m_M → Prop} (C : mC G X YX6_readStatement (d + 1)) (R : r_v G X K) {μ : m_M}
    (h : ∀ x1 : Int, x1 = μ 3 0 4 → c_i G d YX6_beginsStatement [vI x1] μ (fun r3 μ2 => ((¬ r3 = 0) → ∃ t4 : Nat, μ2 2 0 1 = 100 * (t4 : Int) ∧ m_cls t4 = 9 ∧ c_i G d YX10_hasNoMoreOf [vR t4 0, vI x1] μ2 (fun r6 μ5 => ((r6 = 0) → c_v G d YX7_next [vR 3 0] μ5 (fun μ7 => ((x1 = 256) → c_v G d YX6_readChild [vR 2 0] μ7 (fun μ8 => mW G X YX6_readStatement μ8 195 [some (vR 2 0), some (vI x1)] [])) ∧ ((x1 = 259) → c_v G d YX6_readKiln [vR 2 0] μ7 (fun μ9 => mW G X YX6_readStatement μ9 195 [some (vR 2 0), some (vI x1)] [])) ∧ ((x1 = 265) → ∃ t10 : Nat, μ7 2 0 1 = 100 * (t10 : Int) ∧ m_cls t10 = 9 ∧ c_i G d YX6_number [vR 2 0, vI 0, vI 999] μ7 (fun r12 μ11 => ∀ μ13 : m_M, μ13 = m_up μ11 t10 0 7 r12 → mW G X YX6_readStatement μ13 195 [some (vR 2 0), some (vI x1)] [])) ∧ ((x1 = 266) → ∃ t14 : Nat, μ7 2 0 1 = 100 * (t14 : Int) ∧ m_cls t14 = 9 ∧ c_i G d YX6_number [vR 2 0, vI 0, vI 999] μ7 (fun r16 μ15 => ∀ μ17 : m_M, μ17 = m_up μ15 t14 0 8 r16 → mW G X YX6_readStatement μ17 195 [some (vR 2 0), some (vI x1)] [])) ∧ ((x1 = 267) → ∃ t18 : Nat, μ7 2 0 1 = 100 * (t18 : Int) ∧ m_cls t18 = 9 ∧ c_i G d YX6_number [vR 2 0, vI 0, vI 100] μ7 (fun r20 μ19 => ∀ μ21 : m_M, μ21 = m_up μ19 t18 0 9 r20 → mW G X YX6_readStatement μ21 195 [some (vR 2 0), some (vI x1)] [])) ∧ (((x1 < 256 ∨ 267 < x1 ∨ x1 = 257 ∨ x1 = 258 ∨ x1 = 260 ∨ x1 = 261 ∨ x1 = 262 ∨ x1 = 263 ∨ x1 = 264)) → mW G X YX6_readStatement μ7 195 [some (vR 2 0), some (vI x1)] []))) ∧ ((¬ r6 = 0) → c_v G d YX7_fail [vR 3 0, vI 6, vI (μ5 3 0 5)] μ5 (fun μ22 => K μ22)))) ∧ ((r3 = 0) → c_v G d YX7_fail [vR 3 0, vI 1, vI (μ2 3 0 5)] μ2 (fun μ23 => K μ23)))) :
    mW G X YX6_readStatement μ 0 [some (vR 2 0), none] [] := by
  refine m_aload_n C dX6_readStatement_0 rfl ?_
  refine f_getO (t := 3) C dX6_readStatement_1 fl_KilnBench_Parser_12 rfl (by decide) (by decide) (by decide) (by decide) ?_
  refine f_getI C dX6_readStatement_4 fl_KilnBench_Parser_38 rfl (by decide) (by decide) ?_
  refine n_istore_n (fun x1 => [some (vR 2 0), some (vI x1)]) C dX6_readStatement_7 (by decide) (fun _ => rfl) (fun x1 ex1 => ?_)
  have h := h x1 ex1
  refine m_iload_n C dX6_readStatement_8 rfl ?_
  refine f_callSi (As := [vI x1]) (st := []) C dX6_readStatement_9 ml_KilnBench_Parser_52 rfl rfl (Nat.le_of_ble_eq_true rfl) h (fun r3 μ2 h => ?_)
  refine m_if_ne (tgt := 31) C dX6_readStatement_12 (by decide) (fun c => ?_) (fun c => ?_)
  · have h := h.1 c
    refine m_aload_n C dX6_readStatement_31 rfl ?_
    obtain ⟨t4, hx_t4, hc_t4, h⟩ := h
    refine f_getR (t := t4) (w := 0) C dX6_readStatement_32 fl_KilnBench_Parser_25 rfl (by decide) (by decide) (by rw [hx_t4]; omega) (by decide) (m_cls0 hc_t4 (by decide)) ?_
    refine m_iload_n C dX6_readStatement_35 rfl ?_
    refine f_callVi (As := [vI x1]) (st := []) C dX6_readStatement_36 ml_KilnBench_Parser_63 hc_t4 (by decide) rfl rfl rfl (Nat.le_of_ble_eq_true rfl) h (fun r6 μ5 h => ?_)
    refine m_if_eq (tgt := 59) C dX6_readStatement_39 (by decide) (fun c => ?_) (fun c => ?_)
    · have h := h.1 c
      refine m_aload_n C dX6_readStatement_59 rfl ?_
      refine f_getO (t := 3) C dX6_readStatement_60 fl_KilnBench_Parser_12 rfl (by decide) (by decide) (by decide) (by decide) ?_
      refine f_callVv (As := []) (st := []) C dX6_readStatement_63 ml_KilnBench_Parser_66 rfl (by decide) rfl rfl rfl (Nat.le_of_ble_eq_true rfl) h (fun μ7 h => ?_)
      refine m_iload_n C dX6_readStatement_66 rfl ?_
      by_cases hx : x1 < 256 ∨ 267 < x1
      · have h := h.2.2.2.2.2 (by omega)
        refine m_swOut (tgt := 195) C dX6_readStatement_67 hx (by decide) ?_
        exact h
      · have hx : x1 = 256 ∨ x1 = 257 ∨ x1 = 258 ∨ x1 = 259 ∨ x1 = 260 ∨ x1 = 261 ∨ x1 = 262 ∨ x1 = 263 ∨ x1 = 264 ∨ x1 = 265 ∨ x1 = 266 ∨ x1 = 267 := by omega
        rcases hx with hx | hx | hx | hx | hx | hx | hx | hx | hx | hx | hx | hx
        · have h := h.1 hx
          refine m_swIn (tgt := 128) (off := 61) C dX6_readStatement_67 (by omega) (by omega) (by rw [hx]; rfl) (by decide) ?_
          refine m_aload_n C dX6_readStatement_128 rfl ?_
          refine f_callVv (As := []) (st := []) C dX6_readStatement_129 ml_KilnBench_Parser_69 rfl (by decide) rfl rfl rfl (Nat.le_of_ble_eq_true rfl) h (fun μ8 h => ?_)
          refine m_goto (tgt := 195) C dX6_readStatement_132 (by decide) ?_
          exact h
        · have h := h.2.2.2.2.2 (by omega)
          refine m_swIn (tgt := 195) (off := 128) C dX6_readStatement_67 (by omega) (by omega) (by rw [hx]; rfl) (by decide) ?_
          exact h
        · have h := h.2.2.2.2.2 (by omega)
          refine m_swIn (tgt := 195) (off := 128) C dX6_readStatement_67 (by omega) (by omega) (by rw [hx]; rfl) (by decide) ?_
          exact h
        · have h := h.2.1 hx
          refine m_swIn (tgt := 135) (off := 68) C dX6_readStatement_67 (by omega) (by omega) (by rw [hx]; rfl) (by decide) ?_
          refine m_aload_n C dX6_readStatement_135 rfl ?_
          refine f_callVv (As := []) (st := []) C dX6_readStatement_136 ml_KilnBench_Parser_72 rfl (by decide) rfl rfl rfl (Nat.le_of_ble_eq_true rfl) h (fun μ9 h => ?_)
          refine m_goto (tgt := 195) C dX6_readStatement_139 (by decide) ?_
          exact h
        · have h := h.2.2.2.2.2 (by omega)
          refine m_swIn (tgt := 195) (off := 128) C dX6_readStatement_67 (by omega) (by omega) (by rw [hx]; rfl) (by decide) ?_
          exact h
        · have h := h.2.2.2.2.2 (by omega)
          refine m_swIn (tgt := 195) (off := 128) C dX6_readStatement_67 (by omega) (by omega) (by rw [hx]; rfl) (by decide) ?_
          exact h
        · have h := h.2.2.2.2.2 (by omega)
          refine m_swIn (tgt := 195) (off := 128) C dX6_readStatement_67 (by omega) (by omega) (by rw [hx]; rfl) (by decide) ?_
          exact h
        · have h := h.2.2.2.2.2 (by omega)
          refine m_swIn (tgt := 195) (off := 128) C dX6_readStatement_67 (by omega) (by omega) (by rw [hx]; rfl) (by decide) ?_
          exact h
        · have h := h.2.2.2.2.2 (by omega)
          refine m_swIn (tgt := 195) (off := 128) C dX6_readStatement_67 (by omega) (by omega) (by rw [hx]; rfl) (by decide) ?_
          exact h
        · have h := h.2.2.1 hx
          refine m_swIn (tgt := 142) (off := 75) C dX6_readStatement_67 (by omega) (by omega) (by rw [hx]; rfl) (by decide) ?_
          refine m_aload_n C dX6_readStatement_142 rfl ?_
          obtain ⟨t10, hx_t10, hc_t10, h⟩ := h
          refine f_getR (t := t10) (w := 0) C dX6_readStatement_143 fl_KilnBench_Parser_25 rfl (by decide) (by decide) (by rw [hx_t10]; omega) (by decide) (m_cls0 hc_t10 (by decide)) ?_
          refine m_aload_n C dX6_readStatement_146 rfl ?_
          refine m_iconst C dX6_readStatement_147 (by unfold in32; omega) ?_
          refine m_sipush C dX6_readStatement_148 (by omega) ?_
          refine f_callVi (As := [vI 0, vI 999]) (st := [vR t10 0]) C dX6_readStatement_151 ml_KilnBench_Parser_75 rfl (by decide) rfl rfl rfl (Nat.le_of_ble_eq_true rfl) h (fun r12 μ11 h => ?_)
          refine f_putI C dX6_readStatement_154 fl_KilnBench_Parser_79 hc_t10 (by decide) (by decide) (by decide) ?_
          refine n_mem (fun μ13 eμ13 => ?_)
          have h := h μ13 eμ13
          refine m_goto (tgt := 195) C dX6_readStatement_157 (by decide) ?_
          exact h
        · have h := h.2.2.2.1 hx
          refine m_swIn (tgt := 160) (off := 93) C dX6_readStatement_67 (by omega) (by omega) (by rw [hx]; rfl) (by decide) ?_
          refine m_aload_n C dX6_readStatement_160 rfl ?_
          obtain ⟨t14, hx_t14, hc_t14, h⟩ := h
          refine f_getR (t := t14) (w := 0) C dX6_readStatement_161 fl_KilnBench_Parser_25 rfl (by decide) (by decide) (by rw [hx_t14]; omega) (by decide) (m_cls0 hc_t14 (by decide)) ?_
          refine m_aload_n C dX6_readStatement_164 rfl ?_
          refine m_iconst C dX6_readStatement_165 (by unfold in32; omega) ?_
          refine m_sipush C dX6_readStatement_166 (by omega) ?_
          refine f_callVi (As := [vI 0, vI 999]) (st := [vR t14 0]) C dX6_readStatement_169 ml_KilnBench_Parser_75 rfl (by decide) rfl rfl rfl (Nat.le_of_ble_eq_true rfl) h (fun r16 μ15 h => ?_)
          refine f_putI C dX6_readStatement_172 fl_KilnBench_Parser_82 hc_t14 (by decide) (by decide) (by decide) ?_
          refine n_mem (fun μ17 eμ17 => ?_)
          have h := h μ17 eμ17
          refine m_goto (tgt := 195) C dX6_readStatement_175 (by decide) ?_
          exact h
        · have h := h.2.2.2.2.1 hx
          refine m_swIn (tgt := 178) (off := 111) C dX6_readStatement_67 (by omega) (by omega) (by rw [hx]; rfl) (by decide) ?_
          refine m_aload_n C dX6_readStatement_178 rfl ?_
          obtain ⟨t18, hx_t18, hc_t18, h⟩ := h
          refine f_getR (t := t18) (w := 0) C dX6_readStatement_179 fl_KilnBench_Parser_25 rfl (by decide) (by decide) (by rw [hx_t18]; omega) (by decide) (m_cls0 hc_t18 (by decide)) ?_
          refine m_aload_n C dX6_readStatement_182 rfl ?_
          refine m_iconst C dX6_readStatement_183 (by unfold in32; omega) ?_
          refine m_bipush C dX6_readStatement_184 (by omega) ?_
          refine f_callVi (As := [vI 0, vI 100]) (st := [vR t18 0]) C dX6_readStatement_186 ml_KilnBench_Parser_75 rfl (by decide) rfl rfl rfl (Nat.le_of_ble_eq_true rfl) h (fun r20 μ19 h => ?_)
          refine f_putI C dX6_readStatement_189 fl_KilnBench_Parser_85 hc_t18 (by decide) (by decide) (by decide) ?_
          refine n_mem (fun μ21 eμ21 => ?_)
          have h := h μ21 eμ21
          refine m_goto (tgt := 195) C dX6_readStatement_192 (by decide) ?_
          exact h
    · have h := h.2 c
      refine m_aload_n C dX6_readStatement_42 rfl ?_
      refine f_getO (t := 3) C dX6_readStatement_43 fl_KilnBench_Parser_12 rfl (by decide) (by decide) (by decide) (by decide) ?_
      refine m_bipush C dX6_readStatement_46 (by omega) ?_
      refine m_aload_n C dX6_readStatement_48 rfl ?_
      refine f_getO (t := 3) C dX6_readStatement_49 fl_KilnBench_Parser_12 rfl (by decide) (by decide) (by decide) (by decide) ?_
      refine f_getI C dX6_readStatement_52 fl_KilnBench_Parser_56 rfl (by decide) (by decide) ?_
      refine f_callVv (As := [vI 6, vI (μ5 3 0 5)]) (st := []) C dX6_readStatement_55 ml_KilnBench_Parser_59 rfl (by decide) rfl rfl rfl (Nat.le_of_ble_eq_true rfl) h (fun μ22 h => ?_)
      exact f_vret C R rfl dX6_readStatement_58 h
  · have h := h.2 c
    refine m_aload_n C dX6_readStatement_15 rfl ?_
    refine f_getO (t := 3) C dX6_readStatement_16 fl_KilnBench_Parser_12 rfl (by decide) (by decide) (by decide) (by decide) ?_
    refine m_iconst C dX6_readStatement_19 (by unfold in32; omega) ?_
    refine m_aload_n C dX6_readStatement_20 rfl ?_
    refine f_getO (t := 3) C dX6_readStatement_21 fl_KilnBench_Parser_12 rfl (by decide) (by decide) (by decide) (by decide) ?_
    refine f_getI C dX6_readStatement_24 fl_KilnBench_Parser_56 rfl (by decide) (by decide) ?_
    refine f_callVv (As := [vI 1, vI (μ2 3 0 5)]) (st := []) C dX6_readStatement_27 ml_KilnBench_Parser_59 rfl (by decide) rfl rfl rfl (Nat.le_of_ble_eq_true rfl) h (fun μ23 h => ?_)
    exact f_vret C R rfl dX6_readStatement_30 h

set_option maxRecDepth 20000 in
theorem VX6_readStatement_195 {G : m_G} {X : m_X} {d : Nat} {K : m_M → Prop} (C : mC G X YX6_readStatement (d + 1)) (R : r_v G X K) {μ : m_M} {l1 : Int}
    (h : c_i G d YX10_isFormula [vI l1] μ (fun r2 μ1 => ((r2 = 0) → c_v G d YX6_endStatement [vR 2 0] μ1 (fun μ3 => K μ3)) ∧ ((¬ r2 = 0) → ∀ μ4 : m_M, μ4 = m_up μ1 2 0 2 l1 → ∃ t5 : Nat, μ4 2 0 1 = 100 * (t5 : Int) ∧ m_cls t5 = 9 ∧ c_v G d YX10_beginFormula [vR t5 0, vI l1] μ4 (fun μ6 => ((l1 = 261) → c_v G d YX6_readSum [vR 2 0] μ6 (fun μ7 => ∃ t8 : Nat, μ7 2 0 1 = 100 * (t8 : Int) ∧ m_cls t8 = 9 ∧ c_v G d YX10_endFormula [vR t8 0, vI l1] μ7 (fun μ9 => c_v G d YX6_endStatement [vR 2 0] μ9 (fun μ10 => K μ10)))) ∧ ((¬ l1 = 261) → ((¬ l1 = 264) → c_v G d YX6_readTest [vR 2 0] μ6 (fun μ11 => ∃ t12 : Nat, μ11 2 0 1 = 100 * (t12 : Int) ∧ m_cls t12 = 9 ∧ c_v G d YX10_endFormula [vR t12 0, vI l1] μ11 (fun μ13 => c_v G d YX6_endStatement [vR 2 0] μ13 (fun μ14 => K μ14)))) ∧ ((l1 = 264) → c_v G d YX6_readSum [vR 2 0] μ6 (fun μ15 => ∃ t16 : Nat, μ15 2 0 1 = 100 * (t16 : Int) ∧ m_cls t16 = 9 ∧ c_v G d YX10_endFormula [vR t16 0, vI l1] μ15 (fun μ17 => c_v G d YX6_endStatement [vR 2 0] μ17 (fun μ18 => K μ18))))))))) :
    mW G X YX6_readStatement μ 195 [some (vR 2 0), some (vI l1)] [] := by
  refine m_iload_n C dX6_readStatement_195 rfl ?_
  refine f_callSiN (As := [vI l1]) (st := []) C dX6_readStatement_196 ml_KilnBench_Parser_88 rfl rfl (Nat.le_of_ble_eq_true rfl) h (fun r2 μ1 h => ?_)
  refine m_if_eq (tgt := 248) C dX6_readStatement_199 (by decide) (fun c => ?_) (fun c => ?_)
  · have h := h.1 c
    refine m_aload_n C dX6_readStatement_248 rfl ?_
    refine f_callVv (As := []) (st := []) C dX6_readStatement_249 ml_KilnBench_Parser_104 rfl (by decide) rfl rfl rfl (Nat.le_of_ble_eq_true rfl) h (fun μ3 h => ?_)
    exact f_vret C R rfl dX6_readStatement_252 h
  · have h := h.2 c
    refine m_aload_n C dX6_readStatement_202 rfl ?_
    refine m_iload_n C dX6_readStatement_203 rfl ?_
    refine f_putI C dX6_readStatement_204 fl_KilnBench_Parser_18 rfl (by decide) (by decide) (by decide) ?_
    refine n_mem (fun μ4 eμ4 => ?_)
    have h := h μ4 eμ4
    refine m_aload_n C dX6_readStatement_207 rfl ?_
    obtain ⟨t5, hx_t5, hc_t5, h⟩ := h
    refine f_getR (t := t5) (w := 0) C dX6_readStatement_208 fl_KilnBench_Parser_25 rfl (by decide) (by decide) (by rw [hx_t5]; omega) (by decide) (m_cls0 hc_t5 (by decide)) ?_
    refine m_iload_n C dX6_readStatement_211 rfl ?_
    refine f_callVv (As := [vI l1]) (st := []) C dX6_readStatement_212 ml_KilnBench_Parser_91 hc_t5 (by decide) rfl rfl rfl (Nat.le_of_ble_eq_true rfl) h (fun μ6 h => ?_)
    refine m_iload_n C dX6_readStatement_215 rfl ?_
    refine m_sipush C dX6_readStatement_216 (by omega) ?_
    refine m_icmp_eq (tgt := 229) C dX6_readStatement_219 (by decide) (fun c => ?_) (fun c => ?_)
    · have h := h.1 c
      refine m_aload_n C dX6_readStatement_229 rfl ?_
      refine f_callVv (As := []) (st := []) C dX6_readStatement_230 ml_KilnBench_Parser_95 rfl (by decide) rfl rfl rfl (Nat.le_of_ble_eq_true rfl) h (fun μ7 h => ?_)
      refine m_goto (tgt := 240) C dX6_readStatement_233 (by decide) ?_
      refine m_aload_n C dX6_readStatement_240 rfl ?_
      obtain ⟨t8, hx_t8, hc_t8, h⟩ := h
      refine f_getR (t := t8) (w := 0) C dX6_readStatement_241 fl_KilnBench_Parser_25 rfl (by decide) (by decide) (by rw [hx_t8]; omega) (by decide) (m_cls0 hc_t8 (by decide)) ?_
      refine m_iload_n C dX6_readStatement_244 rfl ?_
      refine f_callVv (As := [vI l1]) (st := []) C dX6_readStatement_245 ml_KilnBench_Parser_101 hc_t8 (by decide) rfl rfl rfl (Nat.le_of_ble_eq_true rfl) h (fun μ9 h => ?_)
      refine m_aload_n C dX6_readStatement_248 rfl ?_
      refine f_callVv (As := []) (st := []) C dX6_readStatement_249 ml_KilnBench_Parser_104 rfl (by decide) rfl rfl rfl (Nat.le_of_ble_eq_true rfl) h (fun μ10 h => ?_)
      exact f_vret C R rfl dX6_readStatement_252 h
    · have h := h.2 c
      refine m_iload_n C dX6_readStatement_222 rfl ?_
      refine m_sipush C dX6_readStatement_223 (by omega) ?_
      refine m_icmp_ne (tgt := 236) C dX6_readStatement_226 (by decide) (fun c => ?_) (fun c => ?_)
      · have h := h.1 c
        refine m_aload_n C dX6_readStatement_236 rfl ?_
        refine f_callVv (As := []) (st := []) C dX6_readStatement_237 ml_KilnBench_Parser_98 rfl (by decide) rfl rfl rfl (Nat.le_of_ble_eq_true rfl) h (fun μ11 h => ?_)
        refine m_aload_n C dX6_readStatement_240 rfl ?_
        obtain ⟨t12, hx_t12, hc_t12, h⟩ := h
        refine f_getR (t := t12) (w := 0) C dX6_readStatement_241 fl_KilnBench_Parser_25 rfl (by decide) (by decide) (by rw [hx_t12]; omega) (by decide) (m_cls0 hc_t12 (by decide)) ?_
        refine m_iload_n C dX6_readStatement_244 rfl ?_
        refine f_callVv (As := [vI l1]) (st := []) C dX6_readStatement_245 ml_KilnBench_Parser_101 hc_t12 (by decide) rfl rfl rfl (Nat.le_of_ble_eq_true rfl) h (fun μ13 h => ?_)
        refine m_aload_n C dX6_readStatement_248 rfl ?_
        refine f_callVv (As := []) (st := []) C dX6_readStatement_249 ml_KilnBench_Parser_104 rfl (by decide) rfl rfl rfl (Nat.le_of_ble_eq_true rfl) h (fun μ14 h => ?_)
        exact f_vret C R rfl dX6_readStatement_252 h
      · have h := h.2 c
        refine m_aload_n C dX6_readStatement_229 rfl ?_
        refine f_callVv (As := []) (st := []) C dX6_readStatement_230 ml_KilnBench_Parser_95 rfl (by decide) rfl rfl rfl (Nat.le_of_ble_eq_true rfl) h (fun μ15 h => ?_)
        refine m_goto (tgt := 240) C dX6_readStatement_233 (by decide) ?_
        refine m_aload_n C dX6_readStatement_240 rfl ?_
        obtain ⟨t16, hx_t16, hc_t16, h⟩ := h
        refine f_getR (t := t16) (w := 0) C dX6_readStatement_241 fl_KilnBench_Parser_25 rfl (by decide) (by decide) (by rw [hx_t16]; omega) (by decide) (m_cls0 hc_t16 (by decide)) ?_
        refine m_iload_n C dX6_readStatement_244 rfl ?_
        refine f_callVv (As := [vI l1]) (st := []) C dX6_readStatement_245 ml_KilnBench_Parser_101 hc_t16 (by decide) rfl rfl rfl (Nat.le_of_ble_eq_true rfl) h (fun μ17 h => ?_)
        refine m_aload_n C dX6_readStatement_248 rfl ?_
        refine f_callVv (As := []) (st := []) C dX6_readStatement_249 ml_KilnBench_Parser_104 rfl (by decide) rfl rfl rfl (Nat.le_of_ble_eq_true rfl) h (fun μ18 h => ?_)
        exact f_vret C R rfl dX6_readStatement_252 h

set_option maxRecDepth 20000 in
theorem VX6_endStatement_0 {G : m_G} {X : m_X} {d : Nat} {K : m_M → Prop} (C : mC G X YX6_endStatement (d + 1)) (R : r_v G X K) {μ : m_M}
    (h : ((μ 3 0 4 = 59) → ∃ t1 : Nat, μ 2 0 1 = 100 * (t1 : Int) ∧ m_cls t1 = 9 ∧ ∀ μ2 : m_M, μ2 = m_up μ t1 0 10 (w32 ((μ t1 0 10) + 1)) → ∃ t3 : Nat, μ2 2 0 1 = 100 * (t3 : Int) ∧ m_cls t3 = 9 ∧ ((μ2 t3 0 10 < 80) → c_v G d YX7_next [vR 3 0] μ2 (fun μ4 => K μ4)) ∧ ((¬ μ2 t3 0 10 < 80) → c_i G d YX7_isAtEnd [vR 3 0] μ2 (fun r6 μ5 => ((¬ r6 = 0) → c_v G d YX7_next [vR 3 0] μ5 (fun μ7 => K μ7)) ∧ ((r6 = 0) → c_i G d YX7_upcoming [vR 3 0] μ5 (fun r9 μ8 => c_v G d YX7_fail [vR 3 0, vI 6, vI r9] μ8 (fun μ10 => c_v G d YX7_next [vR 3 0] μ10 (fun μ11 => K μ11))))))) ∧ ((¬ μ 3 0 4 = 59) → c_v G d YX7_fail [vR 3 0, vI 1, vI (μ 3 0 5)] μ (fun μ12 => K μ12))) :
    mW G X YX6_endStatement μ 0 [some (vR 2 0)] [] := by
  refine m_aload_n C dX6_endStatement_0 rfl ?_
  refine f_getO (t := 3) C dX6_endStatement_1 fl_KilnBench_Parser_12 rfl (by decide) (by decide) (by decide) (by decide) ?_
  refine f_getI C dX6_endStatement_4 fl_KilnBench_Parser_38 rfl (by decide) (by decide) ?_
  refine m_bipush C dX6_endStatement_7 (by omega) ?_
  refine m_icmp_eq (tgt := 28) C dX6_endStatement_9 (by decide) (fun c => ?_) (fun c => ?_)
  · have h := h.1 c
    refine m_aload_n C dX6_endStatement_28 rfl ?_
    obtain ⟨t1, hx_t1, hc_t1, h⟩ := h
    refine f_getR (t := t1) (w := 0) C dX6_endStatement_29 fl_KilnBench_Parser_25 rfl (by decide) (by decide) (by rw [hx_t1]; omega) (by decide) (m_cls0 hc_t1 (by decide)) ?_
    refine m_dup C dX6_endStatement_32 rfl ?_
    refine f_getI C dX6_endStatement_33 fl_KilnBench_Parser_107 hc_t1 (by decide) (by decide) ?_
    refine m_iconst C dX6_endStatement_36 (by unfold in32; omega) ?_
    refine m_iadd C dX6_endStatement_37 ?_
    refine f_putI C dX6_endStatement_38 fl_KilnBench_Parser_107 hc_t1 (by decide) (by decide) (by decide) ?_
    refine n_mem (fun μ2 eμ2 => ?_)
    have h := h μ2 eμ2
    refine m_aload_n C dX6_endStatement_41 rfl ?_
    obtain ⟨t3, hx_t3, hc_t3, h⟩ := h
    refine f_getR (t := t3) (w := 0) C dX6_endStatement_42 fl_KilnBench_Parser_25 rfl (by decide) (by decide) (by rw [hx_t3]; omega) (by decide) (m_cls0 hc_t3 (by decide)) ?_
    refine f_getI C dX6_endStatement_45 fl_KilnBench_Parser_107 hc_t3 (by decide) (by decide) ?_
    refine m_bipush C dX6_endStatement_48 (by omega) ?_
    refine m_icmp_lt (tgt := 79) C dX6_endStatement_50 (by decide) (fun c => ?_) (fun c => ?_)
    · have h := h.1 c
      refine m_aload_n C dX6_endStatement_79 rfl ?_
      refine f_getO (t := 3) C dX6_endStatement_80 fl_KilnBench_Parser_12 rfl (by decide) (by decide) (by decide) (by decide) ?_
      refine f_callVv (As := []) (st := []) C dX6_endStatement_83 ml_KilnBench_Parser_66 rfl (by decide) rfl rfl rfl (Nat.le_of_ble_eq_true rfl) h (fun μ4 h => ?_)
      exact f_vret C R rfl dX6_endStatement_86 h
    · have h := h.2 c
      refine m_aload_n C dX6_endStatement_53 rfl ?_
      refine f_getO (t := 3) C dX6_endStatement_54 fl_KilnBench_Parser_12 rfl (by decide) (by decide) (by decide) (by decide) ?_
      refine f_callVi (As := []) (st := []) C dX6_endStatement_57 ml_KilnBench_Parser_110 rfl (by decide) rfl rfl rfl (Nat.le_of_ble_eq_true rfl) h (fun r6 μ5 h => ?_)
      refine m_if_ne (tgt := 79) C dX6_endStatement_60 (by decide) (fun c => ?_) (fun c => ?_)
      · have h := h.1 c
        refine m_aload_n C dX6_endStatement_79 rfl ?_
        refine f_getO (t := 3) C dX6_endStatement_80 fl_KilnBench_Parser_12 rfl (by decide) (by decide) (by decide) (by decide) ?_
        refine f_callVv (As := []) (st := []) C dX6_endStatement_83 ml_KilnBench_Parser_66 rfl (by decide) rfl rfl rfl (Nat.le_of_ble_eq_true rfl) h (fun μ7 h => ?_)
        exact f_vret C R rfl dX6_endStatement_86 h
      · have h := h.2 c
        refine m_aload_n C dX6_endStatement_63 rfl ?_
        refine f_getO (t := 3) C dX6_endStatement_64 fl_KilnBench_Parser_12 rfl (by decide) (by decide) (by decide) (by decide) ?_
        refine m_bipush C dX6_endStatement_67 (by omega) ?_
        refine m_aload_n C dX6_endStatement_69 rfl ?_
        refine f_getO (t := 3) C dX6_endStatement_70 fl_KilnBench_Parser_12 rfl (by decide) (by decide) (by decide) (by decide) ?_
        refine f_callVi (As := []) (st := [vI 6, vR 3 0]) C dX6_endStatement_73 ml_KilnBench_Parser_114 rfl (by decide) rfl rfl rfl (Nat.le_of_ble_eq_true rfl) h (fun r9 μ8 h => ?_)
        refine f_callVv (As := [vI 6, vI r9]) (st := []) C dX6_endStatement_76 ml_KilnBench_Parser_59 rfl (by decide) rfl rfl rfl (Nat.le_of_ble_eq_true rfl) h (fun μ10 h => ?_)
        refine m_aload_n C dX6_endStatement_79 rfl ?_
        refine f_getO (t := 3) C dX6_endStatement_80 fl_KilnBench_Parser_12 rfl (by decide) (by decide) (by decide) (by decide) ?_
        refine f_callVv (As := []) (st := []) C dX6_endStatement_83 ml_KilnBench_Parser_66 rfl (by decide) rfl rfl rfl (Nat.le_of_ble_eq_true rfl) h (fun μ11 h => ?_)
        exact f_vret C R rfl dX6_endStatement_86 h
  · have h := h.2 c
    refine m_aload_n C dX6_endStatement_12 rfl ?_
    refine f_getO (t := 3) C dX6_endStatement_13 fl_KilnBench_Parser_12 rfl (by decide) (by decide) (by decide) (by decide) ?_
    refine m_iconst C dX6_endStatement_16 (by unfold in32; omega) ?_
    refine m_aload_n C dX6_endStatement_17 rfl ?_
    refine f_getO (t := 3) C dX6_endStatement_18 fl_KilnBench_Parser_12 rfl (by decide) (by decide) (by decide) (by decide) ?_
    refine f_getI C dX6_endStatement_21 fl_KilnBench_Parser_56 rfl (by decide) (by decide) ?_
    refine f_callVv (As := [vI 1, vI (μ 3 0 5)]) (st := []) C dX6_endStatement_24 ml_KilnBench_Parser_59 rfl (by decide) rfl rfl rfl (Nat.le_of_ble_eq_true rfl) h (fun μ12 h => ?_)
    exact f_vret C R rfl dX6_endStatement_27 h

set_option maxRecDepth 20000 in
theorem VX6_readChild_0 {G : m_G} {X : m_X} {d : Nat} {K : m_M → Prop} (C : mC G X YX6_readChild (d + 1)) (R : r_v G X K) {μ : m_M}
    (h : c_i G d YX6_newName [vR 2 0] μ (fun r2 μ1 => c_v G d YX6_expect [vR 2 0, vI 257] μ1 (fun μ4 => c_i G d YX6_number [vR 2 0, vI 0, vI 99] μ4 (fun r6 μ5 => c_v G d YX6_expect [vR 2 0, vI 258] μ5 (fun μ8 => c_i G d YX6_number [vR 2 0, vI 0, vI 9] μ8 (fun r10 μ9 => ∃ t12 : Nat, μ9 2 0 1 = 100 * (t12 : Int) ∧ m_cls t12 = 9 ∧ c_v G d YX10_addChild [vR t12 0, vI r2, vI r6, vI r10] μ9 (fun μ13 => K μ13))))))) :
    mW G X YX6_readChild μ 0 [some (vR 2 0), none, none, none] [] := by
  refine m_aload_n C dX6_readChild_0 rfl ?_
  refine f_callVi (As := []) (st := []) C dX6_readChild_1 ml_KilnBench_Parser_118 rfl (by decide) rfl rfl rfl (Nat.le_of_ble_eq_true rfl) h (fun r2 μ1 h => ?_)
  refine o_istore_n [some (vR 2 0), some (vI r2), none, none] C dX6_readChild_4 (by decide) rfl ?_
  refine m_aload_n C dX6_readChild_5 rfl ?_
  refine m_sipush C dX6_readChild_6 (by omega) ?_
  refine f_callVv (As := [vI 257]) (st := []) C dX6_readChild_9 ml_KilnBench_Parser_121 rfl (by decide) rfl rfl rfl (Nat.le_of_ble_eq_true rfl) h (fun μ4 h => ?_)
  refine m_aload_n C dX6_readChild_12 rfl ?_
  refine m_iconst C dX6_readChild_13 (by unfold in32; omega) ?_
  refine m_bipush C dX6_readChild_14 (by omega) ?_
  refine f_callVi (As := [vI 0, vI 99]) (st := []) C dX6_readChild_16 ml_KilnBench_Parser_75 rfl (by decide) rfl rfl rfl (Nat.le_of_ble_eq_true rfl) h (fun r6 μ5 h => ?_)
  refine o_istore_n [some (vR 2 0), some (vI r2), some (vI r6), none] C dX6_readChild_19 (by decide) rfl ?_
  refine m_aload_n C dX6_readChild_20 rfl ?_
  refine m_sipush C dX6_readChild_21 (by omega) ?_
  refine f_callVv (As := [vI 258]) (st := []) C dX6_readChild_24 ml_KilnBench_Parser_121 rfl (by decide) rfl rfl rfl (Nat.le_of_ble_eq_true rfl) h (fun μ8 h => ?_)
  refine m_aload_n C dX6_readChild_27 rfl ?_
  refine m_iconst C dX6_readChild_28 (by unfold in32; omega) ?_
  refine m_bipush C dX6_readChild_29 (by omega) ?_
  refine f_callVi (As := [vI 0, vI 9]) (st := []) C dX6_readChild_31 ml_KilnBench_Parser_75 rfl (by decide) rfl rfl rfl (Nat.le_of_ble_eq_true rfl) h (fun r10 μ9 h => ?_)
  refine o_istore_n [some (vR 2 0), some (vI r2), some (vI r6), some (vI r10)] C dX6_readChild_34 (by decide) rfl ?_
  refine m_aload_n C dX6_readChild_35 rfl ?_
  obtain ⟨t12, hx_t12, hc_t12, h⟩ := h
  refine f_getR (t := t12) (w := 0) C dX6_readChild_36 fl_KilnBench_Parser_25 rfl (by decide) (by decide) (by rw [hx_t12]; omega) (by decide) (m_cls0 hc_t12 (by decide)) ?_
  refine m_iload_n C dX6_readChild_39 rfl ?_
  refine m_iload_n C dX6_readChild_40 rfl ?_
  refine m_iload_n C dX6_readChild_41 rfl ?_
  refine f_callVv (As := [vI r2, vI r6, vI r10]) (st := []) C dX6_readChild_42 ml_KilnBench_Parser_124 hc_t12 (by decide) rfl rfl rfl (Nat.le_of_ble_eq_true rfl) h (fun μ13 h => ?_)
  exact f_vret C R rfl dX6_readChild_45 h

set_option maxRecDepth 20000 in
theorem VX6_readKiln_0 {G : m_G} {X : m_X} {d : Nat} {K : m_M → Prop} (C : mC G X YX6_readKiln (d + 1)) (R : r_v G X K) {μ : m_M}
    (h : c_i G d YX6_newName [vR 2 0] μ (fun r2 μ1 => c_v G d YX6_expect [vR 2 0, vI 260] μ1 (fun μ4 => c_i G d YX6_number [vR 2 0, vI 1, vI 6] μ4 (fun r6 μ5 => ∃ t8 : Nat, μ5 2 0 1 = 100 * (t8 : Int) ∧ m_cls t8 = 9 ∧ c_v G d YX10_addKiln [vR t8 0, vI r2, vI r6] μ5 (fun μ9 => K μ9))))) :
    mW G X YX6_readKiln μ 0 [some (vR 2 0), none, none] [] := by
  refine m_aload_n C dX6_readKiln_0 rfl ?_
  refine f_callVi (As := []) (st := []) C dX6_readKiln_1 ml_KilnBench_Parser_118 rfl (by decide) rfl rfl rfl (Nat.le_of_ble_eq_true rfl) h (fun r2 μ1 h => ?_)
  refine o_istore_n [some (vR 2 0), some (vI r2), none] C dX6_readKiln_4 (by decide) rfl ?_
  refine m_aload_n C dX6_readKiln_5 rfl ?_
  refine m_sipush C dX6_readKiln_6 (by omega) ?_
  refine f_callVv (As := [vI 260]) (st := []) C dX6_readKiln_9 ml_KilnBench_Parser_121 rfl (by decide) rfl rfl rfl (Nat.le_of_ble_eq_true rfl) h (fun μ4 h => ?_)
  refine m_aload_n C dX6_readKiln_12 rfl ?_
  refine m_iconst C dX6_readKiln_13 (by unfold in32; omega) ?_
  refine m_bipush C dX6_readKiln_14 (by omega) ?_
  refine f_callVi (As := [vI 1, vI 6]) (st := []) C dX6_readKiln_16 ml_KilnBench_Parser_75 rfl (by decide) rfl rfl rfl (Nat.le_of_ble_eq_true rfl) h (fun r6 μ5 h => ?_)
  refine o_istore_n [some (vR 2 0), some (vI r2), some (vI r6)] C dX6_readKiln_19 (by decide) rfl ?_
  refine m_aload_n C dX6_readKiln_20 rfl ?_
  obtain ⟨t8, hx_t8, hc_t8, h⟩ := h
  refine f_getR (t := t8) (w := 0) C dX6_readKiln_21 fl_KilnBench_Parser_25 rfl (by decide) (by decide) (by rw [hx_t8]; omega) (by decide) (m_cls0 hc_t8 (by decide)) ?_
  refine m_iload_n C dX6_readKiln_24 rfl ?_
  refine m_iload_n C dX6_readKiln_25 rfl ?_
  refine f_callVv (As := [vI r2, vI r6]) (st := []) C dX6_readKiln_26 ml_KilnBench_Parser_128 hc_t8 (by decide) rfl rfl rfl (Nat.le_of_ble_eq_true rfl) h (fun μ9 h => ?_)
  exact f_vret C R rfl dX6_readKiln_29 h

set_option maxRecDepth 20000 in
theorem VX6_expect_0 {G : m_G} {X : m_X} {d : Nat} {K : m_M → Prop} (C : mC G X YX6_expect (d + 1)) (R : r_v G X K) {μ : m_M} {a1 : Int}
    (h : ((¬ (μ 3 0 4) = a1) → c_v G d YX7_fail [vR 3 0, vI 1, vI (μ 3 0 5)] μ (fun μ1 => K μ1)) ∧ ((μ 3 0 4 = a1) → c_v G d YX7_next [vR 3 0] μ (fun μ2 => K μ2))) :
    mW G X YX6_expect μ 0 [some (vR 2 0), some (vI a1)] [] := by
  refine m_aload_n C dX6_expect_0 rfl ?_
  refine f_getO (t := 3) C dX6_expect_1 fl_KilnBench_Parser_12 rfl (by decide) (by decide) (by decide) (by decide) ?_
  refine f_getI C dX6_expect_4 fl_KilnBench_Parser_38 rfl (by decide) (by decide) ?_
  refine m_iload_n C dX6_expect_7 rfl ?_
  refine m_icmp_ne (tgt := 21) C dX6_expect_8 (by decide) (fun c => ?_) (fun c => ?_)
  · have h := h.1 c
    refine m_aload_n C dX6_expect_21 rfl ?_
    refine f_getO (t := 3) C dX6_expect_22 fl_KilnBench_Parser_12 rfl (by decide) (by decide) (by decide) (by decide) ?_
    refine m_iconst C dX6_expect_25 (by unfold in32; omega) ?_
    refine m_aload_n C dX6_expect_26 rfl ?_
    refine f_getO (t := 3) C dX6_expect_27 fl_KilnBench_Parser_12 rfl (by decide) (by decide) (by decide) (by decide) ?_
    refine f_getI C dX6_expect_30 fl_KilnBench_Parser_56 rfl (by decide) (by decide) ?_
    refine f_callVv (As := [vI 1, vI (μ 3 0 5)]) (st := []) C dX6_expect_33 ml_KilnBench_Parser_59 rfl (by decide) rfl rfl rfl (Nat.le_of_ble_eq_true rfl) h (fun μ1 h => ?_)
    exact f_vret C R rfl dX6_expect_36 h
  · have h := h.2 c
    refine m_aload_n C dX6_expect_11 rfl ?_
    refine f_getO (t := 3) C dX6_expect_12 fl_KilnBench_Parser_12 rfl (by decide) (by decide) (by decide) (by decide) ?_
    refine f_callVv (As := []) (st := []) C dX6_expect_15 ml_KilnBench_Parser_66 rfl (by decide) rfl rfl rfl (Nat.le_of_ble_eq_true rfl) h (fun μ2 h => ?_)
    refine m_goto (tgt := 36) C dX6_expect_18 (by decide) ?_
    exact f_vret C R rfl dX6_expect_36 h

set_option maxRecDepth 20000 in
theorem VX6_newName_0 {G : m_G} {X : m_X} {d : Nat} {K : Int → m_M → Prop} (C : mC G X YX6_newName (d + 1)) (R : r_i G X K) {μ : m_M}
    (h : ∀ x1 : Int, x1 = μ 3 0 6 → ((μ 3 0 4 = 282) → ∃ t2 : Nat, μ 2 0 1 = 100 * (t2 : Int) ∧ m_cls t2 = 9 ∧ c_i G d YX10_knows [vR t2 0, vI x1] μ (fun r4 μ3 => ((r4 = 0) → c_v G d YX7_next [vR 3 0] μ3 (fun μ5 => K x1 μ5)) ∧ ((¬ r4 = 0) → c_v G d YX7_fail [vR 3 0, vI 2, vI (μ3 3 0 5)] μ3 (fun μ6 => K x1 μ6)))) ∧ ((¬ μ 3 0 4 = 282) → c_v G d YX7_fail [vR 3 0, vI 1, vI (μ 3 0 5)] μ (fun μ7 => K x1 μ7))) :
    mW G X YX6_newName μ 0 [some (vR 2 0), none] [] := by
  refine m_aload_n C dX6_newName_0 rfl ?_
  refine f_getO (t := 3) C dX6_newName_1 fl_KilnBench_Parser_12 rfl (by decide) (by decide) (by decide) (by decide) ?_
  refine f_getI C dX6_newName_4 fl_KilnBench_Parser_131 rfl (by decide) (by decide) ?_
  refine n_istore_n (fun x1 => [some (vR 2 0), some (vI x1)]) C dX6_newName_7 (by decide) (fun _ => rfl) (fun x1 ex1 => ?_)
  have h := h x1 ex1
  refine m_aload_n C dX6_newName_8 rfl ?_
  refine f_getO (t := 3) C dX6_newName_9 fl_KilnBench_Parser_12 rfl (by decide) (by decide) (by decide) (by decide) ?_
  refine f_getI C dX6_newName_12 fl_KilnBench_Parser_38 rfl (by decide) (by decide) ?_
  refine m_sipush C dX6_newName_15 (by omega) ?_
  refine m_icmp_eq (tgt := 39) C dX6_newName_18 (by decide) (fun c => ?_) (fun c => ?_)
  · have h := h.1 c
    refine m_aload_n C dX6_newName_39 rfl ?_
    obtain ⟨t2, hx_t2, hc_t2, h⟩ := h
    refine f_getR (t := t2) (w := 0) C dX6_newName_40 fl_KilnBench_Parser_25 rfl (by decide) (by decide) (by rw [hx_t2]; omega) (by decide) (m_cls0 hc_t2 (by decide)) ?_
    refine m_iload_n C dX6_newName_43 rfl ?_
    refine f_callVi (As := [vI x1]) (st := []) C dX6_newName_44 ml_KilnBench_Parser_134 hc_t2 (by decide) rfl rfl rfl (Nat.le_of_ble_eq_true rfl) h (fun r4 μ3 h => ?_)
    refine m_if_eq (tgt := 68) C dX6_newName_47 (by decide) (fun c => ?_) (fun c => ?_)
    · have h := h.1 c
      refine m_aload_n C dX6_newName_68 rfl ?_
      refine f_getO (t := 3) C dX6_newName_69 fl_KilnBench_Parser_12 rfl (by decide) (by decide) (by decide) (by decide) ?_
      refine f_callVv (As := []) (st := []) C dX6_newName_72 ml_KilnBench_Parser_66 rfl (by decide) rfl rfl rfl (Nat.le_of_ble_eq_true rfl) h (fun μ5 h => ?_)
      refine m_iload_n C dX6_newName_75 rfl ?_
      exact f_iret C R rfl dX6_newName_76 h
    · have h := h.2 c
      refine m_aload_n C dX6_newName_50 rfl ?_
      refine f_getO (t := 3) C dX6_newName_51 fl_KilnBench_Parser_12 rfl (by decide) (by decide) (by decide) (by decide) ?_
      refine m_iconst C dX6_newName_54 (by unfold in32; omega) ?_
      refine m_aload_n C dX6_newName_55 rfl ?_
      refine f_getO (t := 3) C dX6_newName_56 fl_KilnBench_Parser_12 rfl (by decide) (by decide) (by decide) (by decide) ?_
      refine f_getI C dX6_newName_59 fl_KilnBench_Parser_56 rfl (by decide) (by decide) ?_
      refine f_callVv (As := [vI 2, vI (μ3 3 0 5)]) (st := []) C dX6_newName_62 ml_KilnBench_Parser_59 rfl (by decide) rfl rfl rfl (Nat.le_of_ble_eq_true rfl) h (fun μ6 h => ?_)
      refine m_goto (tgt := 75) C dX6_newName_65 (by decide) ?_
      refine m_iload_n C dX6_newName_75 rfl ?_
      exact f_iret C R rfl dX6_newName_76 h
  · have h := h.2 c
    refine m_aload_n C dX6_newName_21 rfl ?_
    refine f_getO (t := 3) C dX6_newName_22 fl_KilnBench_Parser_12 rfl (by decide) (by decide) (by decide) (by decide) ?_
    refine m_iconst C dX6_newName_25 (by unfold in32; omega) ?_
    refine m_aload_n C dX6_newName_26 rfl ?_
    refine f_getO (t := 3) C dX6_newName_27 fl_KilnBench_Parser_12 rfl (by decide) (by decide) (by decide) (by decide) ?_
    refine f_getI C dX6_newName_30 fl_KilnBench_Parser_56 rfl (by decide) (by decide) ?_
    refine f_callVv (As := [vI 1, vI (μ 3 0 5)]) (st := []) C dX6_newName_33 ml_KilnBench_Parser_59 rfl (by decide) rfl rfl rfl (Nat.le_of_ble_eq_true rfl) h (fun μ7 h => ?_)
    refine m_goto (tgt := 75) C dX6_newName_36 (by decide) ?_
    refine m_iload_n C dX6_newName_75 rfl ?_
    exact f_iret C R rfl dX6_newName_76 h

set_option maxRecDepth 20000 in
theorem VX6_number_0 {G : m_G} {X : m_X} {d : Nat} {K : Int → m_M → Prop} (C : mC G X YX6_number (d + 1)) (R : r_i G X K) {μ : m_M} {a1 : Int} {a2 : Int}
    (h : ∀ x1 : Int, x1 = μ 3 0 6 → ((μ 3 0 4 = 283) → ((x1 < a1) → c_v G d YX7_fail [vR 3 0, vI 4, vI (μ 3 0 5)] μ (fun μ2 => K a1 μ2)) ∧ ((¬ x1 < a1) → ((x1 ≤ a2) → c_v G d YX7_next [vR 3 0] μ (fun μ3 => K x1 μ3)) ∧ ((¬ x1 ≤ a2) → c_v G d YX7_fail [vR 3 0, vI 4, vI (μ 3 0 5)] μ (fun μ4 => K a1 μ4)))) ∧ ((¬ μ 3 0 4 = 283) → c_v G d YX7_fail [vR 3 0, vI 1, vI (μ 3 0 5)] μ (fun μ5 => K a1 μ5))) :
    mW G X YX6_number μ 0 [some (vR 2 0), some (vI a1), some (vI a2), none] [] := by
  refine m_aload_n C dX6_number_0 rfl ?_
  refine f_getO (t := 3) C dX6_number_1 fl_KilnBench_Parser_12 rfl (by decide) (by decide) (by decide) (by decide) ?_
  refine f_getI C dX6_number_4 fl_KilnBench_Parser_131 rfl (by decide) (by decide) ?_
  refine n_istore_n (fun x1 => [some (vR 2 0), some (vI a1), some (vI a2), some (vI x1)]) C dX6_number_7 (by decide) (fun _ => rfl) (fun x1 ex1 => ?_)
  have h := h x1 ex1
  refine m_aload_n C dX6_number_8 rfl ?_
  refine f_getO (t := 3) C dX6_number_9 fl_KilnBench_Parser_12 rfl (by decide) (by decide) (by decide) (by decide) ?_
  refine f_getI C dX6_number_12 fl_KilnBench_Parser_38 rfl (by decide) (by decide) ?_
  refine m_sipush C dX6_number_15 (by omega) ?_
  refine m_icmp_eq (tgt := 39) C dX6_number_18 (by decide) (fun c => ?_) (fun c => ?_)
  · have h := h.1 c
    refine m_iload_n C dX6_number_39 rfl ?_
    refine m_iload_n C dX6_number_40 rfl ?_
    refine m_icmp_lt (tgt := 49) C dX6_number_41 (by decide) (fun c => ?_) (fun c => ?_)
    · have h := h.1 c
      refine m_aload_n C dX6_number_49 rfl ?_
      refine f_getO (t := 3) C dX6_number_50 fl_KilnBench_Parser_12 rfl (by decide) (by decide) (by decide) (by decide) ?_
      refine m_iconst C dX6_number_53 (by unfold in32; omega) ?_
      refine m_aload_n C dX6_number_54 rfl ?_
      refine f_getO (t := 3) C dX6_number_55 fl_KilnBench_Parser_12 rfl (by decide) (by decide) (by decide) (by decide) ?_
      refine f_getI C dX6_number_58 fl_KilnBench_Parser_56 rfl (by decide) (by decide) ?_
      refine f_callVv (As := [vI 4, vI (μ 3 0 5)]) (st := []) C dX6_number_61 ml_KilnBench_Parser_59 rfl (by decide) rfl rfl rfl (Nat.le_of_ble_eq_true rfl) h (fun μ2 h => ?_)
      refine m_goto (tgt := 76) C dX6_number_64 (by decide) ?_
      refine m_iload_n C dX6_number_76 rfl ?_
      exact f_iret C R rfl dX6_number_77 h
    · have h := h.2 c
      refine m_iload_n C dX6_number_44 rfl ?_
      refine m_iload_n C dX6_number_45 rfl ?_
      refine m_icmp_le (tgt := 67) C dX6_number_46 (by decide) (fun c => ?_) (fun c => ?_)
      · have h := h.1 c
        refine m_aload_n C dX6_number_67 rfl ?_
        refine f_getO (t := 3) C dX6_number_68 fl_KilnBench_Parser_12 rfl (by decide) (by decide) (by decide) (by decide) ?_
        refine f_callVv (As := []) (st := []) C dX6_number_71 ml_KilnBench_Parser_66 rfl (by decide) rfl rfl rfl (Nat.le_of_ble_eq_true rfl) h (fun μ3 h => ?_)
        refine m_iload_n C dX6_number_74 rfl ?_
        exact f_iret C R rfl dX6_number_75 h
      · have h := h.2 c
        refine m_aload_n C dX6_number_49 rfl ?_
        refine f_getO (t := 3) C dX6_number_50 fl_KilnBench_Parser_12 rfl (by decide) (by decide) (by decide) (by decide) ?_
        refine m_iconst C dX6_number_53 (by unfold in32; omega) ?_
        refine m_aload_n C dX6_number_54 rfl ?_
        refine f_getO (t := 3) C dX6_number_55 fl_KilnBench_Parser_12 rfl (by decide) (by decide) (by decide) (by decide) ?_
        refine f_getI C dX6_number_58 fl_KilnBench_Parser_56 rfl (by decide) (by decide) ?_
        refine f_callVv (As := [vI 4, vI (μ 3 0 5)]) (st := []) C dX6_number_61 ml_KilnBench_Parser_59 rfl (by decide) rfl rfl rfl (Nat.le_of_ble_eq_true rfl) h (fun μ4 h => ?_)
        refine m_goto (tgt := 76) C dX6_number_64 (by decide) ?_
        refine m_iload_n C dX6_number_76 rfl ?_
        exact f_iret C R rfl dX6_number_77 h
  · have h := h.2 c
    refine m_aload_n C dX6_number_21 rfl ?_
    refine f_getO (t := 3) C dX6_number_22 fl_KilnBench_Parser_12 rfl (by decide) (by decide) (by decide) (by decide) ?_
    refine m_iconst C dX6_number_25 (by unfold in32; omega) ?_
    refine m_aload_n C dX6_number_26 rfl ?_
    refine f_getO (t := 3) C dX6_number_27 fl_KilnBench_Parser_12 rfl (by decide) (by decide) (by decide) (by decide) ?_
    refine f_getI C dX6_number_30 fl_KilnBench_Parser_56 rfl (by decide) (by decide) ?_
    refine f_callVv (As := [vI 1, vI (μ 3 0 5)]) (st := []) C dX6_number_33 ml_KilnBench_Parser_59 rfl (by decide) rfl rfl rfl (Nat.le_of_ble_eq_true rfl) h (fun μ5 h => ?_)
    refine m_goto (tgt := 76) C dX6_number_36 (by decide) ?_
    refine m_iload_n C dX6_number_76 rfl ?_
    exact f_iret C R rfl dX6_number_77 h

set_option maxRecDepth 20000 in
theorem VX6_openOne_0 {G : m_G} {X : m_X} {d : Nat} {K : Int → m_M → Prop} (C : mC G X YX6_openOne (d + 1)) (R : r_i G X K) {μ : m_M} {a1 : Int}
    (h : ((μ 3 0 4 = a1) → ((μ 2 0 3 < 7) → ∀ μ1 : m_M, μ1 = m_up μ 2 0 3 (w32 ((μ 2 0 3) + 1)) → c_v G d YX7_next [vR 3 0] μ1 (fun μ2 => K 1 μ2)) ∧ ((¬ μ 2 0 3 < 7) → c_v G d YX7_fail [vR 3 0, vI 5, vI (μ 3 0 5)] μ (fun μ3 => K 0 μ3))) ∧ ((¬ μ 3 0 4 = a1) → c_v G d YX7_fail [vR 3 0, vI 1, vI (μ 3 0 5)] μ (fun μ4 => K 0 μ4))) :
    mW G X YX6_openOne μ 0 [some (vR 2 0), some (vI a1)] [] := by
  refine m_aload_n C dX6_openOne_0 rfl ?_
  refine f_getO (t := 3) C dX6_openOne_1 fl_KilnBench_Parser_12 rfl (by decide) (by decide) (by decide) (by decide) ?_
  refine f_getI C dX6_openOne_4 fl_KilnBench_Parser_38 rfl (by decide) (by decide) ?_
  refine m_iload_n C dX6_openOne_7 rfl ?_
  refine m_icmp_eq (tgt := 28) C dX6_openOne_8 (by decide) (fun c => ?_) (fun c => ?_)
  · have h := h.1 c
    refine m_aload_n C dX6_openOne_28 rfl ?_
    refine f_getI C dX6_openOne_29 fl_KilnBench_Parser_22 rfl (by decide) (by decide) ?_
    refine m_bipush C dX6_openOne_32 (by omega) ?_
    refine m_icmp_lt (tgt := 54) C dX6_openOne_34 (by decide) (fun c => ?_) (fun c => ?_)
    · have h := h.1 c
      refine m_aload_n C dX6_openOne_54 rfl ?_
      refine m_dup C dX6_openOne_55 rfl ?_
      refine f_getI C dX6_openOne_56 fl_KilnBench_Parser_22 rfl (by decide) (by decide) ?_
      refine m_iconst C dX6_openOne_59 (by unfold in32; omega) ?_
      refine m_iadd C dX6_openOne_60 ?_
      refine f_putI C dX6_openOne_61 fl_KilnBench_Parser_22 rfl (by decide) (by decide) (by decide) ?_
      refine n_mem (fun μ1 eμ1 => ?_)
      have h := h μ1 eμ1
      refine m_aload_n C dX6_openOne_64 rfl ?_
      refine f_getO (t := 3) C dX6_openOne_65 fl_KilnBench_Parser_12 rfl (by decide) (by decide) (by decide) (by decide) ?_
      refine f_callVv (As := []) (st := []) C dX6_openOne_68 ml_KilnBench_Parser_66 rfl (by decide) rfl rfl rfl (Nat.le_of_ble_eq_true rfl) h (fun μ2 h => ?_)
      refine m_iconst C dX6_openOne_71 (by unfold in32; omega) ?_
      exact f_zret C R rfl dX6_openOne_72 (by decide) h
    · have h := h.2 c
      refine m_aload_n C dX6_openOne_37 rfl ?_
      refine f_getO (t := 3) C dX6_openOne_38 fl_KilnBench_Parser_12 rfl (by decide) (by decide) (by decide) (by decide) ?_
      refine m_iconst C dX6_openOne_41 (by unfold in32; omega) ?_
      refine m_aload_n C dX6_openOne_42 rfl ?_
      refine f_getO (t := 3) C dX6_openOne_43 fl_KilnBench_Parser_12 rfl (by decide) (by decide) (by decide) (by decide) ?_
      refine f_getI C dX6_openOne_46 fl_KilnBench_Parser_56 rfl (by decide) (by decide) ?_
      refine f_callVv (As := [vI 5, vI (μ 3 0 5)]) (st := []) C dX6_openOne_49 ml_KilnBench_Parser_59 rfl (by decide) rfl rfl rfl (Nat.le_of_ble_eq_true rfl) h (fun μ3 h => ?_)
      refine m_iconst C dX6_openOne_52 (by unfold in32; omega) ?_
      exact f_zret C R rfl dX6_openOne_53 (by decide) h
  · have h := h.2 c
    refine m_aload_n C dX6_openOne_11 rfl ?_
    refine f_getO (t := 3) C dX6_openOne_12 fl_KilnBench_Parser_12 rfl (by decide) (by decide) (by decide) (by decide) ?_
    refine m_iconst C dX6_openOne_15 (by unfold in32; omega) ?_
    refine m_aload_n C dX6_openOne_16 rfl ?_
    refine f_getO (t := 3) C dX6_openOne_17 fl_KilnBench_Parser_12 rfl (by decide) (by decide) (by decide) (by decide) ?_
    refine f_getI C dX6_openOne_20 fl_KilnBench_Parser_56 rfl (by decide) (by decide) ?_
    refine f_callVv (As := [vI 1, vI (μ 3 0 5)]) (st := []) C dX6_openOne_23 ml_KilnBench_Parser_59 rfl (by decide) rfl rfl rfl (Nat.le_of_ble_eq_true rfl) h (fun μ4 h => ?_)
    refine m_iconst C dX6_openOne_26 (by unfold in32; omega) ?_
    exact f_zret C R rfl dX6_openOne_27 (by decide) h

set_option maxRecDepth 20000 in
theorem VX6_closeOne_0 {G : m_G} {X : m_X} {d : Nat} {K : m_M → Prop} (C : mC G X YX6_closeOne (d + 1)) (R : r_v G X K) {μ : m_M} {a1 : Int}
    (h : ∀ μ1 : m_M, μ1 = m_up μ 2 0 3 (w32 ((μ 2 0 3) - 1)) → ((¬ (μ1 3 0 4) = a1) → c_v G d YX7_fail [vR 3 0, vI 1, vI (μ1 3 0 5)] μ1 (fun μ2 => K μ2)) ∧ ((μ1 3 0 4 = a1) → c_v G d YX7_next [vR 3 0] μ1 (fun μ3 => K μ3))) :
    mW G X YX6_closeOne μ 0 [some (vR 2 0), some (vI a1)] [] := by
  refine m_aload_n C dX6_closeOne_0 rfl ?_
  refine m_dup C dX6_closeOne_1 rfl ?_
  refine f_getI C dX6_closeOne_2 fl_KilnBench_Parser_22 rfl (by decide) (by decide) ?_
  refine m_iconst C dX6_closeOne_5 (by unfold in32; omega) ?_
  refine m_isub C dX6_closeOne_6 ?_
  refine f_putI C dX6_closeOne_7 fl_KilnBench_Parser_22 rfl (by decide) (by decide) (by decide) ?_
  refine n_mem (fun μ1 eμ1 => ?_)
  have h := h μ1 eμ1
  refine m_aload_n C dX6_closeOne_10 rfl ?_
  refine f_getO (t := 3) C dX6_closeOne_11 fl_KilnBench_Parser_12 rfl (by decide) (by decide) (by decide) (by decide) ?_
  refine f_getI C dX6_closeOne_14 fl_KilnBench_Parser_38 rfl (by decide) (by decide) ?_
  refine m_iload_n C dX6_closeOne_17 rfl ?_
  refine m_icmp_ne (tgt := 31) C dX6_closeOne_18 (by decide) (fun c => ?_) (fun c => ?_)
  · have h := h.1 c
    refine m_aload_n C dX6_closeOne_31 rfl ?_
    refine f_getO (t := 3) C dX6_closeOne_32 fl_KilnBench_Parser_12 rfl (by decide) (by decide) (by decide) (by decide) ?_
    refine m_iconst C dX6_closeOne_35 (by unfold in32; omega) ?_
    refine m_aload_n C dX6_closeOne_36 rfl ?_
    refine f_getO (t := 3) C dX6_closeOne_37 fl_KilnBench_Parser_12 rfl (by decide) (by decide) (by decide) (by decide) ?_
    refine f_getI C dX6_closeOne_40 fl_KilnBench_Parser_56 rfl (by decide) (by decide) ?_
    refine f_callVv (As := [vI 1, vI (μ1 3 0 5)]) (st := []) C dX6_closeOne_43 ml_KilnBench_Parser_59 rfl (by decide) rfl rfl rfl (Nat.le_of_ble_eq_true rfl) h (fun μ2 h => ?_)
    exact f_vret C R rfl dX6_closeOne_46 h
  · have h := h.2 c
    refine m_aload_n C dX6_closeOne_21 rfl ?_
    refine f_getO (t := 3) C dX6_closeOne_22 fl_KilnBench_Parser_12 rfl (by decide) (by decide) (by decide) (by decide) ?_
    refine f_callVv (As := []) (st := []) C dX6_closeOne_25 ml_KilnBench_Parser_66 rfl (by decide) rfl rfl rfl (Nat.le_of_ble_eq_true rfl) h (fun μ3 h => ?_)
    refine m_goto (tgt := 46) C dX6_closeOne_28 (by decide) ?_
    exact f_vret C R rfl dX6_closeOne_46 h

set_option maxRecDepth 20000 in
theorem VX6_readSum_0 {G : m_G} {X : m_X} {d : Nat} {K : m_M → Prop} (C : mC G X YX6_readSum (d + 1)) (R : r_v G X K) {μ : m_M}
    (h : c_v G d YX6_readProduct [vR 2 0] μ (fun μ1 => mW G X YX6_readSum μ1 6 [some (vR 2 0), some (vI 0), none] [])) :
    mW G X YX6_readSum μ 0 [some (vR 2 0), none, none] [] := by
  refine m_aload_n C dX6_readSum_0 rfl ?_
  refine f_callVv (As := []) (st := []) C dX6_readSum_1 ml_KilnBench_Parser_137 rfl (by decide) rfl rfl rfl (Nat.le_of_ble_eq_true rfl) h (fun μ1 h => ?_)
  refine m_iconst C dX6_readSum_4 (by unfold in32; omega) ?_
  refine o_istore_n [some (vR 2 0), some (vI 0), none] C dX6_readSum_5 (by decide) rfl ?_
  exact h

set_option maxRecDepth 20000 in
theorem VX6_readSum_6 {G : m_G} {X : m_X} {d : Nat} {K : m_M → Prop} (C : mC G X YX6_readSum (d + 1)) (R : r_v G X K) {μ : m_M} {l1 : Int}
    (h : ((1600 ≤ l1) → K μ) ∧ ((¬ 1600 ≤ l1) → ((μ 3 0 4 = 43) → mW G X YX6_readSum μ 37 [some (vR 2 0), some (vI l1), none] []) ∧ ((¬ μ 3 0 4 = 43) → ((¬ (μ 3 0 4) = 45) → K μ) ∧ ((μ 3 0 4 = 45) → mW G X YX6_readSum μ 37 [some (vR 2 0), some (vI l1), none] [])))) :
    mW G X YX6_readSum μ 6 [some (vR 2 0), some (vI l1), none] [] := by
  refine m_iload_n C dX6_readSum_6 rfl ?_
  refine m_sipush C dX6_readSum_7 (by omega) ?_
  refine m_icmp_ge (tgt := 70) C dX6_readSum_10 (by decide) (fun c => ?_) (fun c => ?_)
  · have h := h.1 c
    exact f_vret C R rfl dX6_readSum_70 h
  · have h := h.2 c
    refine m_aload_n C dX6_readSum_13 rfl ?_
    refine f_getO (t := 3) C dX6_readSum_14 fl_KilnBench_Parser_12 rfl (by decide) (by decide) (by decide) (by decide) ?_
    refine f_getI C dX6_readSum_17 fl_KilnBench_Parser_38 rfl (by decide) (by decide) ?_
    refine m_bipush C dX6_readSum_20 (by omega) ?_
    refine m_icmp_eq (tgt := 37) C dX6_readSum_22 (by decide) (fun c => ?_) (fun c => ?_)
    · have h := h.1 c
      exact h
    · have h := h.2 c
      refine m_aload_n C dX6_readSum_25 rfl ?_
      refine f_getO (t := 3) C dX6_readSum_26 fl_KilnBench_Parser_12 rfl (by decide) (by decide) (by decide) (by decide) ?_
      refine f_getI C dX6_readSum_29 fl_KilnBench_Parser_38 rfl (by decide) (by decide) ?_
      refine m_bipush C dX6_readSum_32 (by omega) ?_
      refine m_icmp_ne (tgt := 70) C dX6_readSum_34 (by decide) (fun c => ?_) (fun c => ?_)
      · have h := h.1 c
        exact f_vret C R rfl dX6_readSum_70 h
      · have h := h.2 c
        exact h

set_option maxRecDepth 20000 in
theorem VX6_readSum_37 {G : m_G} {X : m_X} {d : Nat} {K : m_M → Prop} (C : mC G X YX6_readSum (d + 1)) (R : r_v G X K) {μ : m_M} {l1 : Int}
    (h : ∀ x1 : Int, x1 = μ 3 0 4 → c_v G d YX7_next [vR 3 0] μ (fun μ2 => c_v G d YX6_readProduct [vR 2 0] μ2 (fun μ3 => ∃ t4 : Nat, μ3 2 0 1 = 100 * (t4 : Int) ∧ m_cls t4 = 9 ∧ c_v G d YX10_addCode [vR t4 0, vI x1] μ3 (fun μ5 => ∀ x6 : Int, x6 = w32 (l1 + 1) → mW G X YX6_readSum μ5 6 [some (vR 2 0), some (vI x6), none] [])))) :
    mW G X YX6_readSum μ 37 [some (vR 2 0), some (vI l1), none] [] := by
  refine m_aload_n C dX6_readSum_37 rfl ?_
  refine f_getO (t := 3) C dX6_readSum_38 fl_KilnBench_Parser_12 rfl (by decide) (by decide) (by decide) (by decide) ?_
  refine f_getI C dX6_readSum_41 fl_KilnBench_Parser_38 rfl (by decide) (by decide) ?_
  refine n_istore_n (fun x1 => [some (vR 2 0), some (vI l1), some (vI x1)]) C dX6_readSum_44 (by decide) (fun _ => rfl) (fun x1 ex1 => ?_)
  have h := h x1 ex1
  refine m_aload_n C dX6_readSum_45 rfl ?_
  refine f_getO (t := 3) C dX6_readSum_46 fl_KilnBench_Parser_12 rfl (by decide) (by decide) (by decide) (by decide) ?_
  refine f_callVv (As := []) (st := []) C dX6_readSum_49 ml_KilnBench_Parser_66 rfl (by decide) rfl rfl rfl (Nat.le_of_ble_eq_true rfl) h (fun μ2 h => ?_)
  refine m_aload_n C dX6_readSum_52 rfl ?_
  refine f_callVv (As := []) (st := []) C dX6_readSum_53 ml_KilnBench_Parser_137 rfl (by decide) rfl rfl rfl (Nat.le_of_ble_eq_true rfl) h (fun μ3 h => ?_)
  refine m_aload_n C dX6_readSum_56 rfl ?_
  obtain ⟨t4, hx_t4, hc_t4, h⟩ := h
  refine f_getR (t := t4) (w := 0) C dX6_readSum_57 fl_KilnBench_Parser_25 rfl (by decide) (by decide) (by rw [hx_t4]; omega) (by decide) (m_cls0 hc_t4 (by decide)) ?_
  refine m_iload_n C dX6_readSum_60 rfl ?_
  refine f_callVv (As := [vI x1]) (st := []) C dX6_readSum_61 ml_KilnBench_Parser_140 hc_t4 (by decide) rfl rfl rfl (Nat.le_of_ble_eq_true rfl) h (fun μ5 h => ?_)
  refine n_iinc (fun x6 => [some (vR 2 0), some (vI x6), some (vI x1)]) C dX6_readSum_64 rfl (by decide) (fun _ => rfl) (fun x6 ex6 => ?_)
  have h := h x6 ex6
  refine m_goto (tgt := 6) C dX6_readSum_67 (by decide) ?_
  exact n_weak (le_same (le_same (le_none le_nil))) h

set_option maxRecDepth 20000 in
theorem VX6_readProduct_0 {G : m_G} {X : m_X} {d : Nat} {K : m_M → Prop} (C : mC G X YX6_readProduct (d + 1)) (R : r_v G X K) {μ : m_M}
    (h : c_v G d YX6_readPart [vR 2 0] μ (fun μ1 => mW G X YX6_readProduct μ1 6 [some (vR 2 0), some (vI 0), none] [])) :
    mW G X YX6_readProduct μ 0 [some (vR 2 0), none, none] [] := by
  refine m_aload_n C dX6_readProduct_0 rfl ?_
  refine f_callVv (As := []) (st := []) C dX6_readProduct_1 ml_KilnBench_Parser_143 rfl (by decide) rfl rfl rfl (Nat.le_of_ble_eq_true rfl) h (fun μ1 h => ?_)
  refine m_iconst C dX6_readProduct_4 (by unfold in32; omega) ?_
  refine o_istore_n [some (vR 2 0), some (vI 0), none] C dX6_readProduct_5 (by decide) rfl ?_
  exact h

set_option maxRecDepth 20000 in
theorem VX6_readProduct_6 {G : m_G} {X : m_X} {d : Nat} {K : m_M → Prop} (C : mC G X YX6_readProduct (d + 1)) (R : r_v G X K) {μ : m_M} {l1 : Int}
    (h : ((1600 ≤ l1) → K μ) ∧ ((¬ 1600 ≤ l1) → c_i G d YX6_isProductSign [vI (μ 3 0 4)] μ (fun r2 μ1 => ((r2 = 0) → K μ1) ∧ ((¬ r2 = 0) → ∀ x3 : Int, x3 = μ1 3 0 4 → c_v G d YX7_next [vR 3 0] μ1 (fun μ4 => c_v G d YX6_readPart [vR 2 0] μ4 (fun μ5 => ∃ t6 : Nat, μ5 2 0 1 = 100 * (t6 : Int) ∧ m_cls t6 = 9 ∧ c_v G d YX10_addCode [vR t6 0, vI x3] μ5 (fun μ7 => ∀ x8 : Int, x8 = w32 (l1 + 1) → mW G X YX6_readProduct μ7 6 [some (vR 2 0), some (vI x8), none] []))))))) :
    mW G X YX6_readProduct μ 6 [some (vR 2 0), some (vI l1), none] [] := by
  refine m_iload_n C dX6_readProduct_6 rfl ?_
  refine m_sipush C dX6_readProduct_7 (by omega) ?_
  refine m_icmp_ge (tgt := 59) C dX6_readProduct_10 (by decide) (fun c => ?_) (fun c => ?_)
  · have h := h.1 c
    exact f_vret C R rfl dX6_readProduct_59 h
  · have h := h.2 c
    refine m_aload_n C dX6_readProduct_13 rfl ?_
    refine f_getO (t := 3) C dX6_readProduct_14 fl_KilnBench_Parser_12 rfl (by decide) (by decide) (by decide) (by decide) ?_
    refine f_getI C dX6_readProduct_17 fl_KilnBench_Parser_38 rfl (by decide) (by decide) ?_
    refine f_callSi (As := [vI (μ 3 0 4)]) (st := []) C dX6_readProduct_20 ml_KilnBench_Parser_146 rfl rfl (Nat.le_of_ble_eq_true rfl) h (fun r2 μ1 h => ?_)
    refine m_if_eq (tgt := 59) C dX6_readProduct_23 (by decide) (fun c => ?_) (fun c => ?_)
    · have h := h.1 c
      exact f_vret C R rfl dX6_readProduct_59 h
    · have h := h.2 c
      refine m_aload_n C dX6_readProduct_26 rfl ?_
      refine f_getO (t := 3) C dX6_readProduct_27 fl_KilnBench_Parser_12 rfl (by decide) (by decide) (by decide) (by decide) ?_
      refine f_getI C dX6_readProduct_30 fl_KilnBench_Parser_38 rfl (by decide) (by decide) ?_
      refine n_istore_n (fun x3 => [some (vR 2 0), some (vI l1), some (vI x3)]) C dX6_readProduct_33 (by decide) (fun _ => rfl) (fun x3 ex3 => ?_)
      have h := h x3 ex3
      refine m_aload_n C dX6_readProduct_34 rfl ?_
      refine f_getO (t := 3) C dX6_readProduct_35 fl_KilnBench_Parser_12 rfl (by decide) (by decide) (by decide) (by decide) ?_
      refine f_callVv (As := []) (st := []) C dX6_readProduct_38 ml_KilnBench_Parser_66 rfl (by decide) rfl rfl rfl (Nat.le_of_ble_eq_true rfl) h (fun μ4 h => ?_)
      refine m_aload_n C dX6_readProduct_41 rfl ?_
      refine f_callVv (As := []) (st := []) C dX6_readProduct_42 ml_KilnBench_Parser_143 rfl (by decide) rfl rfl rfl (Nat.le_of_ble_eq_true rfl) h (fun μ5 h => ?_)
      refine m_aload_n C dX6_readProduct_45 rfl ?_
      obtain ⟨t6, hx_t6, hc_t6, h⟩ := h
      refine f_getR (t := t6) (w := 0) C dX6_readProduct_46 fl_KilnBench_Parser_25 rfl (by decide) (by decide) (by rw [hx_t6]; omega) (by decide) (m_cls0 hc_t6 (by decide)) ?_
      refine m_iload_n C dX6_readProduct_49 rfl ?_
      refine f_callVv (As := [vI x3]) (st := []) C dX6_readProduct_50 ml_KilnBench_Parser_140 hc_t6 (by decide) rfl rfl rfl (Nat.le_of_ble_eq_true rfl) h (fun μ7 h => ?_)
      refine n_iinc (fun x8 => [some (vR 2 0), some (vI x8), some (vI x3)]) C dX6_readProduct_53 rfl (by decide) (fun _ => rfl) (fun x8 ex8 => ?_)
      have h := h x8 ex8
      refine m_goto (tgt := 6) C dX6_readProduct_56 (by decide) ?_
      exact n_weak (le_same (le_same (le_none le_nil))) h

set_option maxRecDepth 20000 in
theorem VX6_isProductSign_0 {G : m_G} {X : m_X} {d : Nat} {K : Int → m_M → Prop} (C : mC G X YX6_isProductSign (d + 1)) (R : r_i G X K) {μ : m_M} {a1 : Int}
    (h : ((a1 = 42) → K 1 μ) ∧ ((¬ a1 = 42) → ((a1 = 47) → K 1 μ) ∧ ((¬ a1 = 47) → ((¬ a1 = 37) → K 0 μ) ∧ ((a1 = 37) → K 1 μ)))) :
    mW G X YX6_isProductSign μ 0 [some (vI a1)] [] := by
  refine m_iload_n C dX6_isProductSign_0 rfl ?_
  refine m_bipush C dX6_isProductSign_1 (by omega) ?_
  refine m_icmp_eq (tgt := 18) C dX6_isProductSign_3 (by decide) (fun c => ?_) (fun c => ?_)
  · have h := h.1 c
    refine m_iconst C dX6_isProductSign_18 (by unfold in32; omega) ?_
    refine m_goto (tgt := 23) C dX6_isProductSign_19 (by decide) ?_
    exact f_zret C R rfl dX6_isProductSign_23 (by decide) h
  · have h := h.2 c
    refine m_iload_n C dX6_isProductSign_6 rfl ?_
    refine m_bipush C dX6_isProductSign_7 (by omega) ?_
    refine m_icmp_eq (tgt := 18) C dX6_isProductSign_9 (by decide) (fun c => ?_) (fun c => ?_)
    · have h := h.1 c
      refine m_iconst C dX6_isProductSign_18 (by unfold in32; omega) ?_
      refine m_goto (tgt := 23) C dX6_isProductSign_19 (by decide) ?_
      exact f_zret C R rfl dX6_isProductSign_23 (by decide) h
    · have h := h.2 c
      refine m_iload_n C dX6_isProductSign_12 rfl ?_
      refine m_bipush C dX6_isProductSign_13 (by omega) ?_
      refine m_icmp_ne (tgt := 22) C dX6_isProductSign_15 (by decide) (fun c => ?_) (fun c => ?_)
      · have h := h.1 c
        refine m_iconst C dX6_isProductSign_22 (by unfold in32; omega) ?_
        exact f_zret C R rfl dX6_isProductSign_23 (by decide) h
      · have h := h.2 c
        refine m_iconst C dX6_isProductSign_18 (by unfold in32; omega) ?_
        refine m_goto (tgt := 23) C dX6_isProductSign_19 (by decide) ?_
        exact f_zret C R rfl dX6_isProductSign_23 (by decide) h

set_option maxRecDepth 20000 in
theorem VX6_readPart_0 {G : m_G} {X : m_X} {d : Nat} {K : m_M → Prop} (C : mC G X YX6_readPart (d + 1)) (R : r_v G X K) {μ : m_M}
    (h : ∀ x1 : Int, x1 = μ 3 0 4 → ((x1 = 40) → c_v G d YX6_readBracket [vR 2 0] μ (fun μ3 => K μ3)) ∧ ((x1 = 275) → c_v G d YX6_readChoice [vR 2 0, vI x1] μ (fun μ4 => K μ4)) ∧ ((x1 = 280) → c_v G d YX6_readChoice [vR 2 0, vI x1] μ (fun μ5 => K μ5)) ∧ ((x1 = 281) → c_v G d YX6_readChoice [vR 2 0, vI x1] μ (fun μ6 => K μ6)) ∧ ((x1 = 283) → ∃ t7 : Nat, μ 2 0 1 = 100 * (t7 : Int) ∧ m_cls t7 = 9 ∧ c_v G d YX10_addCode [vR t7 0, vI (w32 (1000 + (μ 3 0 6)))] μ (fun μ8 => c_v G d YX7_next [vR 3 0] μ8 (fun μ9 => K μ9))) ∧ ((¬ x1 = 40 ∧ ¬ x1 = 275 ∧ ¬ x1 = 280 ∧ ¬ x1 = 281 ∧ ¬ x1 = 283) → c_v G d YX6_readFactWord [vR 2 0, vI x1] μ (fun μ2 => K μ2))) :
    mW G X YX6_readPart μ 0 [some (vR 2 0), none] [] := by
  refine m_aload_n C dX6_readPart_0 rfl ?_
  refine f_getO (t := 3) C dX6_readPart_1 fl_KilnBench_Parser_12 rfl (by decide) (by decide) (by decide) (by decide) ?_
  refine f_getI C dX6_readPart_4 fl_KilnBench_Parser_38 rfl (by decide) (by decide) ?_
  refine n_istore_n (fun x1 => [some (vR 2 0), some (vI x1)]) C dX6_readPart_7 (by decide) (fun _ => rfl) (fun x1 ex1 => ?_)
  have h := h x1 ex1
  refine m_iload_n C dX6_readPart_8 rfl ?_
  by_cases hx0 : x1 = 40
  · have h := h.1 hx0
    refine m_lsw (tgt := 88) (off := 79) C dX6_readPart_9 (by decide) (by rw [hx0]; decide) (by decide) ?_
    refine m_aload_n C dX6_readPart_88 rfl ?_
    refine f_callVv (As := []) (st := []) C dX6_readPart_89 ml_KilnBench_Parser_151 rfl (by decide) rfl rfl rfl (Nat.le_of_ble_eq_true rfl) h (fun μ3 h => ?_)
    refine m_goto (tgt := 108) C dX6_readPart_92 (by decide) ?_
    exact f_vret C R rfl dX6_readPart_108 h
  by_cases hx1 : x1 = 275
  · have h := h.2.1 hx1
    refine m_lsw (tgt := 95) (off := 86) C dX6_readPart_9 (by decide) (by rw [hx1]; decide) (by decide) ?_
    refine m_aload_n C dX6_readPart_95 rfl ?_
    refine m_iload_n C dX6_readPart_96 rfl ?_
    refine f_callVv (As := [vI x1]) (st := []) C dX6_readPart_97 ml_KilnBench_Parser_154 rfl (by decide) rfl rfl rfl (Nat.le_of_ble_eq_true rfl) h (fun μ4 h => ?_)
    refine m_goto (tgt := 108) C dX6_readPart_100 (by decide) ?_
    exact f_vret C R rfl dX6_readPart_108 h
  by_cases hx2 : x1 = 280
  · have h := h.2.2.1 hx2
    refine m_lsw (tgt := 95) (off := 86) C dX6_readPart_9 (by decide) (by rw [hx2]; decide) (by decide) ?_
    refine m_aload_n C dX6_readPart_95 rfl ?_
    refine m_iload_n C dX6_readPart_96 rfl ?_
    refine f_callVv (As := [vI x1]) (st := []) C dX6_readPart_97 ml_KilnBench_Parser_154 rfl (by decide) rfl rfl rfl (Nat.le_of_ble_eq_true rfl) h (fun μ5 h => ?_)
    refine m_goto (tgt := 108) C dX6_readPart_100 (by decide) ?_
    exact f_vret C R rfl dX6_readPart_108 h
  by_cases hx3 : x1 = 281
  · have h := h.2.2.2.1 hx3
    refine m_lsw (tgt := 95) (off := 86) C dX6_readPart_9 (by decide) (by rw [hx3]; decide) (by decide) ?_
    refine m_aload_n C dX6_readPart_95 rfl ?_
    refine m_iload_n C dX6_readPart_96 rfl ?_
    refine f_callVv (As := [vI x1]) (st := []) C dX6_readPart_97 ml_KilnBench_Parser_154 rfl (by decide) rfl rfl rfl (Nat.le_of_ble_eq_true rfl) h (fun μ6 h => ?_)
    refine m_goto (tgt := 108) C dX6_readPart_100 (by decide) ?_
    exact f_vret C R rfl dX6_readPart_108 h
  by_cases hx4 : x1 = 283
  · have h := h.2.2.2.2.1 hx4
    refine m_lsw (tgt := 60) (off := 51) C dX6_readPart_9 (by decide) (by rw [hx4]; decide) (by decide) ?_
    refine m_aload_n C dX6_readPart_60 rfl ?_
    obtain ⟨t7, hx_t7, hc_t7, h⟩ := h
    refine f_getR (t := t7) (w := 0) C dX6_readPart_61 fl_KilnBench_Parser_25 rfl (by decide) (by decide) (by rw [hx_t7]; omega) (by decide) (m_cls0 hc_t7 (by decide)) ?_
    refine m_sipush C dX6_readPart_64 (by omega) ?_
    refine m_aload_n C dX6_readPart_67 rfl ?_
    refine f_getO (t := 3) C dX6_readPart_68 fl_KilnBench_Parser_12 rfl (by decide) (by decide) (by decide) (by decide) ?_
    refine f_getI C dX6_readPart_71 fl_KilnBench_Parser_131 rfl (by decide) (by decide) ?_
    refine m_iadd C dX6_readPart_74 ?_
    refine f_callVv (As := [vI (w32 (1000 + (μ 3 0 6)))]) (st := []) C dX6_readPart_75 ml_KilnBench_Parser_140 hc_t7 (by decide) rfl rfl rfl (Nat.le_of_ble_eq_true rfl) h (fun μ8 h => ?_)
    refine m_aload_n C dX6_readPart_78 rfl ?_
    refine f_getO (t := 3) C dX6_readPart_79 fl_KilnBench_Parser_12 rfl (by decide) (by decide) (by decide) (by decide) ?_
    refine f_callVv (As := []) (st := []) C dX6_readPart_82 ml_KilnBench_Parser_66 rfl (by decide) rfl rfl rfl (Nat.le_of_ble_eq_true rfl) h (fun μ9 h => ?_)
    refine m_goto (tgt := 108) C dX6_readPart_85 (by decide) ?_
    exact f_vret C R rfl dX6_readPart_108 h
  have h := h.2.2.2.2.2 ⟨hx0, hx1, hx2, hx3, hx4⟩
  refine m_lsw (tgt := 103) (off := 94) C dX6_readPart_9 (by decide) (by simp only [Op.lookupswitch.offset]; rw [if_neg (fun e => hx0 e.symm), if_neg (fun e => hx1 e.symm), if_neg (fun e => hx2 e.symm), if_neg (fun e => hx3 e.symm), if_neg (fun e => hx4 e.symm)]) (by decide) ?_
  refine m_aload_n C dX6_readPart_103 rfl ?_
  refine m_iload_n C dX6_readPart_104 rfl ?_
  refine f_callVv (As := [vI x1]) (st := []) C dX6_readPart_105 ml_KilnBench_Parser_157 rfl (by decide) rfl rfl rfl (Nat.le_of_ble_eq_true rfl) h (fun μ2 h => ?_)
  exact f_vret C R rfl dX6_readPart_108 h

set_option maxRecDepth 20000 in
theorem VX6_readBracket_0 {G : m_G} {X : m_X} {d : Nat} {K : m_M → Prop} (C : mC G X YX6_readBracket (d + 1)) (R : r_v G X K) {μ : m_M}
    (h : c_i G d YX6_openOne [vR 2 0, vI 40] μ (fun r2 μ1 => ((r2 = 0) → K μ1) ∧ ((¬ r2 = 0) → c_v G d YX6_readSum [vR 2 0] μ1 (fun μ3 => c_v G d YX6_closeOne [vR 2 0, vI 41] μ3 (fun μ4 => K μ4))))) :
    mW G X YX6_readBracket μ 0 [some (vR 2 0)] [] := by
  refine m_aload_n C dX6_readBracket_0 rfl ?_
  refine m_bipush C dX6_readBracket_1 (by omega) ?_
  refine f_callVi (As := [vI 40]) (st := []) C dX6_readBracket_3 ml_KilnBench_Parser_160 rfl (by decide) rfl rfl rfl (Nat.le_of_ble_eq_true rfl) h (fun r2 μ1 h => ?_)
  refine m_if_eq (tgt := 19) C dX6_readBracket_6 (by decide) (fun c => ?_) (fun c => ?_)
  · have h := h.1 c
    exact f_vret C R rfl dX6_readBracket_19 h
  · have h := h.2 c
    refine m_aload_n C dX6_readBracket_9 rfl ?_
    refine f_callVv (As := []) (st := []) C dX6_readBracket_10 ml_KilnBench_Parser_95 rfl (by decide) rfl rfl rfl (Nat.le_of_ble_eq_true rfl) h (fun μ3 h => ?_)
    refine m_aload_n C dX6_readBracket_13 rfl ?_
    refine m_bipush C dX6_readBracket_14 (by omega) ?_
    refine f_callVv (As := [vI 41]) (st := []) C dX6_readBracket_16 ml_KilnBench_Parser_163 rfl (by decide) rfl rfl rfl (Nat.le_of_ble_eq_true rfl) h (fun μ4 h => ?_)
    exact f_vret C R rfl dX6_readBracket_19 h

set_option maxRecDepth 20000 in
theorem VX6_readChoice_0 {G : m_G} {X : m_X} {d : Nat} {K : m_M → Prop} (C : mC G X YX6_readChoice (d + 1)) (R : r_v G X K) {μ : m_M} {a1 : Int}
    (h : c_v G d YX7_next [vR 3 0] μ (fun μ1 => c_i G d YX6_openOne [vR 2 0, vI 40] μ1 (fun r3 μ2 => ((¬ r3 = 0) → ((¬ a1 = 275) → mW G X YX6_readChoice μ2 34 [some (vR 2 0), some (vI a1)] []) ∧ ((a1 = 275) → c_v G d YX6_readTest [vR 2 0] μ2 (fun μ4 => c_v G d YX6_expect [vR 2 0, vI 44] μ4 (fun μ5 => mW G X YX6_readChoice μ5 34 [some (vR 2 0), some (vI a1)] [])))) ∧ ((r3 = 0) → K μ2)))) :
    mW G X YX6_readChoice μ 0 [some (vR 2 0), some (vI a1)] [] := by
  refine m_aload_n C dX6_readChoice_0 rfl ?_
  refine f_getO (t := 3) C dX6_readChoice_1 fl_KilnBench_Parser_12 rfl (by decide) (by decide) (by decide) (by decide) ?_
  refine f_callVv (As := []) (st := []) C dX6_readChoice_4 ml_KilnBench_Parser_66 rfl (by decide) rfl rfl rfl (Nat.le_of_ble_eq_true rfl) h (fun μ1 h => ?_)
  refine m_aload_n C dX6_readChoice_7 rfl ?_
  refine m_bipush C dX6_readChoice_8 (by omega) ?_
  refine f_callVi (As := [vI 40]) (st := []) C dX6_readChoice_10 ml_KilnBench_Parser_160 rfl (by decide) rfl rfl rfl (Nat.le_of_ble_eq_true rfl) h (fun r3 μ2 h => ?_)
  refine m_if_ne (tgt := 17) C dX6_readChoice_13 (by decide) (fun c => ?_) (fun c => ?_)
  · have h := h.1 c
    refine m_iload_n C dX6_readChoice_17 rfl ?_
    refine m_sipush C dX6_readChoice_18 (by omega) ?_
    refine m_icmp_ne (tgt := 34) C dX6_readChoice_21 (by decide) (fun c => ?_) (fun c => ?_)
    · have h := h.1 c
      exact h
    · have h := h.2 c
      refine m_aload_n C dX6_readChoice_24 rfl ?_
      refine f_callVv (As := []) (st := []) C dX6_readChoice_25 ml_KilnBench_Parser_98 rfl (by decide) rfl rfl rfl (Nat.le_of_ble_eq_true rfl) h (fun μ4 h => ?_)
      refine m_aload_n C dX6_readChoice_28 rfl ?_
      refine m_bipush C dX6_readChoice_29 (by omega) ?_
      refine f_callVv (As := [vI 44]) (st := []) C dX6_readChoice_31 ml_KilnBench_Parser_121 rfl (by decide) rfl rfl rfl (Nat.le_of_ble_eq_true rfl) h (fun μ5 h => ?_)
      exact h
  · have h := h.2 c
    exact f_vret C R rfl dX6_readChoice_16 h

set_option maxRecDepth 20000 in
theorem VX6_readChoice_34 {G : m_G} {X : m_X} {d : Nat} {K : m_M → Prop} (C : mC G X YX6_readChoice (d + 1)) (R : r_v G X K) {μ : m_M} {a1 : Int}
    (h : c_v G d YX6_readSum [vR 2 0] μ (fun μ1 => c_v G d YX6_expect [vR 2 0, vI 44] μ1 (fun μ2 => c_v G d YX6_readSum [vR 2 0] μ2 (fun μ3 => c_v G d YX6_closeOne [vR 2 0, vI 41] μ3 (fun μ4 => ∃ t5 : Nat, μ4 2 0 1 = 100 * (t5 : Int) ∧ m_cls t5 = 9 ∧ c_v G d YX10_addCode [vR t5 0, vI a1] μ4 (fun μ6 => K μ6)))))) :
    mW G X YX6_readChoice μ 34 [some (vR 2 0), some (vI a1)] [] := by
  refine m_aload_n C dX6_readChoice_34 rfl ?_
  refine f_callVv (As := []) (st := []) C dX6_readChoice_35 ml_KilnBench_Parser_95 rfl (by decide) rfl rfl rfl (Nat.le_of_ble_eq_true rfl) h (fun μ1 h => ?_)
  refine m_aload_n C dX6_readChoice_38 rfl ?_
  refine m_bipush C dX6_readChoice_39 (by omega) ?_
  refine f_callVv (As := [vI 44]) (st := []) C dX6_readChoice_41 ml_KilnBench_Parser_121 rfl (by decide) rfl rfl rfl (Nat.le_of_ble_eq_true rfl) h (fun μ2 h => ?_)
  refine m_aload_n C dX6_readChoice_44 rfl ?_
  refine f_callVv (As := []) (st := []) C dX6_readChoice_45 ml_KilnBench_Parser_95 rfl (by decide) rfl rfl rfl (Nat.le_of_ble_eq_true rfl) h (fun μ3 h => ?_)
  refine m_aload_n C dX6_readChoice_48 rfl ?_
  refine m_bipush C dX6_readChoice_49 (by omega) ?_
  refine f_callVv (As := [vI 41]) (st := []) C dX6_readChoice_51 ml_KilnBench_Parser_163 rfl (by decide) rfl rfl rfl (Nat.le_of_ble_eq_true rfl) h (fun μ4 h => ?_)
  refine m_aload_n C dX6_readChoice_54 rfl ?_
  obtain ⟨t5, hx_t5, hc_t5, h⟩ := h
  refine f_getR (t := t5) (w := 0) C dX6_readChoice_55 fl_KilnBench_Parser_25 rfl (by decide) (by decide) (by rw [hx_t5]; omega) (by decide) (m_cls0 hc_t5 (by decide)) ?_
  refine m_iload_n C dX6_readChoice_58 rfl ?_
  refine f_callVv (As := [vI a1]) (st := []) C dX6_readChoice_59 ml_KilnBench_Parser_140 hc_t5 (by decide) rfl rfl rfl (Nat.le_of_ble_eq_true rfl) h (fun μ6 h => ?_)
  exact f_vret C R rfl dX6_readChoice_62 h

set_option maxRecDepth 20000 in
theorem VX6_readFactWord_0 {G : m_G} {X : m_X} {d : Nat} {K : m_M → Prop} (C : mC G X YX6_readFactWord (d + 1)) (R : r_v G X K) {μ : m_M} {a1 : Int}
    (h : c_i G d YX6_mayStand [vR 2 0, vI a1] μ (fun r2 μ1 => ((r2 = 0) → c_v G d YX7_fail [vR 3 0, vI 1, vI (μ1 3 0 5)] μ1 (fun μ3 => K μ3)) ∧ ((¬ r2 = 0) → ∃ t4 : Nat, μ1 2 0 1 = 100 * (t4 : Int) ∧ m_cls t4 = 9 ∧ c_v G d YX10_addCode [vR t4 0, vI a1] μ1 (fun μ5 => c_v G d YX7_next [vR 3 0] μ5 (fun μ6 => K μ6))))) :
    mW G X YX6_readFactWord μ 0 [some (vR 2 0), some (vI a1)] [] := by
  refine m_aload_n C dX6_readFactWord_0 rfl ?_
  refine m_iload_n C dX6_readFactWord_1 rfl ?_
  refine f_callVi (As := [vI a1]) (st := []) C dX6_readFactWord_2 ml_KilnBench_Parser_166 rfl (by decide) rfl rfl rfl (Nat.le_of_ble_eq_true rfl) h (fun r2 μ1 h => ?_)
  refine m_if_eq (tgt := 26) C dX6_readFactWord_5 (by decide) (fun c => ?_) (fun c => ?_)
  · have h := h.1 c
    refine m_aload_n C dX6_readFactWord_26 rfl ?_
    refine f_getO (t := 3) C dX6_readFactWord_27 fl_KilnBench_Parser_12 rfl (by decide) (by decide) (by decide) (by decide) ?_
    refine m_iconst C dX6_readFactWord_30 (by unfold in32; omega) ?_
    refine m_aload_n C dX6_readFactWord_31 rfl ?_
    refine f_getO (t := 3) C dX6_readFactWord_32 fl_KilnBench_Parser_12 rfl (by decide) (by decide) (by decide) (by decide) ?_
    refine f_getI C dX6_readFactWord_35 fl_KilnBench_Parser_56 rfl (by decide) (by decide) ?_
    refine f_callVv (As := [vI 1, vI (μ1 3 0 5)]) (st := []) C dX6_readFactWord_38 ml_KilnBench_Parser_59 rfl (by decide) rfl rfl rfl (Nat.le_of_ble_eq_true rfl) h (fun μ3 h => ?_)
    exact f_vret C R rfl dX6_readFactWord_41 h
  · have h := h.2 c
    refine m_aload_n C dX6_readFactWord_8 rfl ?_
    obtain ⟨t4, hx_t4, hc_t4, h⟩ := h
    refine f_getR (t := t4) (w := 0) C dX6_readFactWord_9 fl_KilnBench_Parser_25 rfl (by decide) (by decide) (by rw [hx_t4]; omega) (by decide) (m_cls0 hc_t4 (by decide)) ?_
    refine m_iload_n C dX6_readFactWord_12 rfl ?_
    refine f_callVv (As := [vI a1]) (st := []) C dX6_readFactWord_13 ml_KilnBench_Parser_140 hc_t4 (by decide) rfl rfl rfl (Nat.le_of_ble_eq_true rfl) h (fun μ5 h => ?_)
    refine m_aload_n C dX6_readFactWord_16 rfl ?_
    refine f_getO (t := 3) C dX6_readFactWord_17 fl_KilnBench_Parser_12 rfl (by decide) (by decide) (by decide) (by decide) ?_
    refine f_callVv (As := []) (st := []) C dX6_readFactWord_20 ml_KilnBench_Parser_66 rfl (by decide) rfl rfl rfl (Nat.le_of_ble_eq_true rfl) h (fun μ6 h => ?_)
    refine m_goto (tgt := 41) C dX6_readFactWord_23 (by decide) ?_
    exact f_vret C R rfl dX6_readFactWord_41 h

set_option maxRecDepth 20000 in
theorem VX6_mayStand_0 {G : m_G} {X : m_X} {d : Nat} {K : Int → m_M → Prop} (C : mC G X YX6_mayStand (d + 1)) (R : r_i G X K) {μ : m_M} {a1 : Int}
    (h : ((a1 = 257) → ((μ 2 0 2 = 261) → K 1 μ) ∧ ((¬ μ 2 0 2 = 261) → ((¬ (μ 2 0 2) = 262) → K 0 μ) ∧ ((μ 2 0 2 = 262) → K 1 μ))) ∧ ((a1 = 258) → ((μ 2 0 2 = 261) → K 1 μ) ∧ ((¬ μ 2 0 2 = 261) → ((¬ (μ 2 0 2) = 262) → K 0 μ) ∧ ((μ 2 0 2 = 262) → K 1 μ))) ∧ ((a1 = 260) → ((¬ (μ 2 0 2) = 264) → K 0 μ) ∧ ((μ 2 0 2 = 264) → K 1 μ)) ∧ ((a1 = 268) → K 1 μ) ∧ ((a1 = 269) → K 1 μ) ∧ ((a1 = 270) → ((μ 2 0 2 = 261) → K 1 μ) ∧ ((¬ μ 2 0 2 = 261) → ((¬ (μ 2 0 2) = 262) → K 0 μ) ∧ ((μ 2 0 2 = 262) → K 1 μ))) ∧ ((a1 = 271) → ((¬ (μ 2 0 2) = 262) → K 0 μ) ∧ ((μ 2 0 2 = 262) → K 1 μ)) ∧ ((a1 = 272) → ((¬ (μ 2 0 2) = 263) → K 0 μ) ∧ ((μ 2 0 2 = 263) → K 1 μ)) ∧ ((a1 = 273) → ((¬ (μ 2 0 2) = 263) → K 0 μ) ∧ ((μ 2 0 2 = 263) → K 1 μ)) ∧ ((a1 = 274) → ((¬ (μ 2 0 2) = 264) → K 0 μ) ∧ ((μ 2 0 2 = 264) → K 1 μ)) ∧ (((a1 < 257 ∨ 274 < a1 ∨ a1 = 259 ∨ a1 = 261 ∨ a1 = 262 ∨ a1 = 263 ∨ a1 = 264 ∨ a1 = 265 ∨ a1 = 266 ∨ a1 = 267)) → K 0 μ)) :
    mW G X YX6_mayStand μ 0 [some (vR 2 0), some (vI a1)] [] := by
  refine m_iload_n C dX6_mayStand_0 rfl ?_
  by_cases hx : a1 < 257 ∨ 274 < a1
  · have h := h.2.2.2.2.2.2.2.2.2.2 (by omega)
    refine m_swOut (tgt := 164) C dX6_mayStand_1 hx (by decide) ?_
    refine m_iconst C dX6_mayStand_164 (by unfold in32; omega) ?_
    exact f_zret C R rfl dX6_mayStand_165 (by decide) h
  · have hx : a1 = 257 ∨ a1 = 258 ∨ a1 = 259 ∨ a1 = 260 ∨ a1 = 261 ∨ a1 = 262 ∨ a1 = 263 ∨ a1 = 264 ∨ a1 = 265 ∨ a1 = 266 ∨ a1 = 267 ∨ a1 = 268 ∨ a1 = 269 ∨ a1 = 270 ∨ a1 = 271 ∨ a1 = 272 ∨ a1 = 273 ∨ a1 = 274 := by omega
    rcases hx with hx | hx | hx | hx | hx | hx | hx | hx | hx | hx | hx | hx | hx | hx | hx | hx | hx | hx
    · have h := h.1 hx
      refine m_swIn (tgt := 90) (off := 89) C dX6_mayStand_1 (by omega) (by omega) (by rw [hx]; rfl) (by decide) ?_
      refine m_aload_n C dX6_mayStand_90 rfl ?_
      refine f_getI C dX6_mayStand_91 fl_KilnBench_Parser_18 rfl (by decide) (by decide) ?_
      refine m_sipush C dX6_mayStand_94 (by omega) ?_
      refine m_icmp_eq (tgt := 110) C dX6_mayStand_97 (by decide) (fun c => ?_) (fun c => ?_)
      · have h := h.1 c
        refine m_iconst C dX6_mayStand_110 (by unfold in32; omega) ?_
        refine m_goto (tgt := 115) C dX6_mayStand_111 (by decide) ?_
        exact f_zret C R rfl dX6_mayStand_115 (by decide) h
      · have h := h.2 c
        refine m_aload_n C dX6_mayStand_100 rfl ?_
        refine f_getI C dX6_mayStand_101 fl_KilnBench_Parser_18 rfl (by decide) (by decide) ?_
        refine m_sipush C dX6_mayStand_104 (by omega) ?_
        refine m_icmp_ne (tgt := 114) C dX6_mayStand_107 (by decide) (fun c => ?_) (fun c => ?_)
        · have h := h.1 c
          refine m_iconst C dX6_mayStand_114 (by unfold in32; omega) ?_
          exact f_zret C R rfl dX6_mayStand_115 (by decide) h
        · have h := h.2 c
          refine m_iconst C dX6_mayStand_110 (by unfold in32; omega) ?_
          refine m_goto (tgt := 115) C dX6_mayStand_111 (by decide) ?_
          exact f_zret C R rfl dX6_mayStand_115 (by decide) h
    · have h := h.2.1 hx
      refine m_swIn (tgt := 90) (off := 89) C dX6_mayStand_1 (by omega) (by omega) (by rw [hx]; rfl) (by decide) ?_
      refine m_aload_n C dX6_mayStand_90 rfl ?_
      refine f_getI C dX6_mayStand_91 fl_KilnBench_Parser_18 rfl (by decide) (by decide) ?_
      refine m_sipush C dX6_mayStand_94 (by omega) ?_
      refine m_icmp_eq (tgt := 110) C dX6_mayStand_97 (by decide) (fun c => ?_) (fun c => ?_)
      · have h := h.1 c
        refine m_iconst C dX6_mayStand_110 (by unfold in32; omega) ?_
        refine m_goto (tgt := 115) C dX6_mayStand_111 (by decide) ?_
        exact f_zret C R rfl dX6_mayStand_115 (by decide) h
      · have h := h.2 c
        refine m_aload_n C dX6_mayStand_100 rfl ?_
        refine f_getI C dX6_mayStand_101 fl_KilnBench_Parser_18 rfl (by decide) (by decide) ?_
        refine m_sipush C dX6_mayStand_104 (by omega) ?_
        refine m_icmp_ne (tgt := 114) C dX6_mayStand_107 (by decide) (fun c => ?_) (fun c => ?_)
        · have h := h.1 c
          refine m_iconst C dX6_mayStand_114 (by unfold in32; omega) ?_
          exact f_zret C R rfl dX6_mayStand_115 (by decide) h
        · have h := h.2 c
          refine m_iconst C dX6_mayStand_110 (by unfold in32; omega) ?_
          refine m_goto (tgt := 115) C dX6_mayStand_111 (by decide) ?_
          exact f_zret C R rfl dX6_mayStand_115 (by decide) h
    · have h := h.2.2.2.2.2.2.2.2.2.2 (by omega)
      refine m_swIn (tgt := 164) (off := 163) C dX6_mayStand_1 (by omega) (by omega) (by rw [hx]; rfl) (by decide) ?_
      refine m_iconst C dX6_mayStand_164 (by unfold in32; omega) ?_
      exact f_zret C R rfl dX6_mayStand_165 (by decide) h
    · have h := h.2.2.1 hx
      refine m_swIn (tgt := 148) (off := 147) C dX6_mayStand_1 (by omega) (by omega) (by rw [hx]; rfl) (by decide) ?_
      refine m_aload_n C dX6_mayStand_148 rfl ?_
      refine f_getI C dX6_mayStand_149 fl_KilnBench_Parser_18 rfl (by decide) (by decide) ?_
      refine m_sipush C dX6_mayStand_152 (by omega) ?_
      refine m_icmp_ne (tgt := 162) C dX6_mayStand_155 (by decide) (fun c => ?_) (fun c => ?_)
      · have h := h.1 c
        refine m_iconst C dX6_mayStand_162 (by unfold in32; omega) ?_
        exact f_zret C R rfl dX6_mayStand_163 (by decide) h
      · have h := h.2 c
        refine m_iconst C dX6_mayStand_158 (by unfold in32; omega) ?_
        refine m_goto (tgt := 163) C dX6_mayStand_159 (by decide) ?_
        exact f_zret C R rfl dX6_mayStand_163 (by decide) h
    · have h := h.2.2.2.2.2.2.2.2.2.2 (by omega)
      refine m_swIn (tgt := 164) (off := 163) C dX6_mayStand_1 (by omega) (by omega) (by rw [hx]; rfl) (by decide) ?_
      refine m_iconst C dX6_mayStand_164 (by unfold in32; omega) ?_
      exact f_zret C R rfl dX6_mayStand_165 (by decide) h
    · have h := h.2.2.2.2.2.2.2.2.2.2 (by omega)
      refine m_swIn (tgt := 164) (off := 163) C dX6_mayStand_1 (by omega) (by omega) (by rw [hx]; rfl) (by decide) ?_
      refine m_iconst C dX6_mayStand_164 (by unfold in32; omega) ?_
      exact f_zret C R rfl dX6_mayStand_165 (by decide) h
    · have h := h.2.2.2.2.2.2.2.2.2.2 (by omega)
      refine m_swIn (tgt := 164) (off := 163) C dX6_mayStand_1 (by omega) (by omega) (by rw [hx]; rfl) (by decide) ?_
      refine m_iconst C dX6_mayStand_164 (by unfold in32; omega) ?_
      exact f_zret C R rfl dX6_mayStand_165 (by decide) h
    · have h := h.2.2.2.2.2.2.2.2.2.2 (by omega)
      refine m_swIn (tgt := 164) (off := 163) C dX6_mayStand_1 (by omega) (by omega) (by rw [hx]; rfl) (by decide) ?_
      refine m_iconst C dX6_mayStand_164 (by unfold in32; omega) ?_
      exact f_zret C R rfl dX6_mayStand_165 (by decide) h
    · have h := h.2.2.2.2.2.2.2.2.2.2 (by omega)
      refine m_swIn (tgt := 164) (off := 163) C dX6_mayStand_1 (by omega) (by omega) (by rw [hx]; rfl) (by decide) ?_
      refine m_iconst C dX6_mayStand_164 (by unfold in32; omega) ?_
      exact f_zret C R rfl dX6_mayStand_165 (by decide) h
    · have h := h.2.2.2.2.2.2.2.2.2.2 (by omega)
      refine m_swIn (tgt := 164) (off := 163) C dX6_mayStand_1 (by omega) (by omega) (by rw [hx]; rfl) (by decide) ?_
      refine m_iconst C dX6_mayStand_164 (by unfold in32; omega) ?_
      exact f_zret C R rfl dX6_mayStand_165 (by decide) h
    · have h := h.2.2.2.2.2.2.2.2.2.2 (by omega)
      refine m_swIn (tgt := 164) (off := 163) C dX6_mayStand_1 (by omega) (by omega) (by rw [hx]; rfl) (by decide) ?_
      refine m_iconst C dX6_mayStand_164 (by unfold in32; omega) ?_
      exact f_zret C R rfl dX6_mayStand_165 (by decide) h
    · have h := h.2.2.2.1 hx
      refine m_swIn (tgt := 88) (off := 87) C dX6_mayStand_1 (by omega) (by omega) (by rw [hx]; rfl) (by decide) ?_
      refine m_iconst C dX6_mayStand_88 (by unfold in32; omega) ?_
      exact f_zret C R rfl dX6_mayStand_89 (by decide) h
    · have h := h.2.2.2.2.1 hx
      refine m_swIn (tgt := 88) (off := 87) C dX6_mayStand_1 (by omega) (by omega) (by rw [hx]; rfl) (by decide) ?_
      refine m_iconst C dX6_mayStand_88 (by unfold in32; omega) ?_
      exact f_zret C R rfl dX6_mayStand_89 (by decide) h
    · have h := h.2.2.2.2.2.1 hx
      refine m_swIn (tgt := 90) (off := 89) C dX6_mayStand_1 (by omega) (by omega) (by rw [hx]; rfl) (by decide) ?_
      refine m_aload_n C dX6_mayStand_90 rfl ?_
      refine f_getI C dX6_mayStand_91 fl_KilnBench_Parser_18 rfl (by decide) (by decide) ?_
      refine m_sipush C dX6_mayStand_94 (by omega) ?_
      refine m_icmp_eq (tgt := 110) C dX6_mayStand_97 (by decide) (fun c => ?_) (fun c => ?_)
      · have h := h.1 c
        refine m_iconst C dX6_mayStand_110 (by unfold in32; omega) ?_
        refine m_goto (tgt := 115) C dX6_mayStand_111 (by decide) ?_
        exact f_zret C R rfl dX6_mayStand_115 (by decide) h
      · have h := h.2 c
        refine m_aload_n C dX6_mayStand_100 rfl ?_
        refine f_getI C dX6_mayStand_101 fl_KilnBench_Parser_18 rfl (by decide) (by decide) ?_
        refine m_sipush C dX6_mayStand_104 (by omega) ?_
        refine m_icmp_ne (tgt := 114) C dX6_mayStand_107 (by decide) (fun c => ?_) (fun c => ?_)
        · have h := h.1 c
          refine m_iconst C dX6_mayStand_114 (by unfold in32; omega) ?_
          exact f_zret C R rfl dX6_mayStand_115 (by decide) h
        · have h := h.2 c
          refine m_iconst C dX6_mayStand_110 (by unfold in32; omega) ?_
          refine m_goto (tgt := 115) C dX6_mayStand_111 (by decide) ?_
          exact f_zret C R rfl dX6_mayStand_115 (by decide) h
    · have h := h.2.2.2.2.2.2.1 hx
      refine m_swIn (tgt := 116) (off := 115) C dX6_mayStand_1 (by omega) (by omega) (by rw [hx]; rfl) (by decide) ?_
      refine m_aload_n C dX6_mayStand_116 rfl ?_
      refine f_getI C dX6_mayStand_117 fl_KilnBench_Parser_18 rfl (by decide) (by decide) ?_
      refine m_sipush C dX6_mayStand_120 (by omega) ?_
      refine m_icmp_ne (tgt := 130) C dX6_mayStand_123 (by decide) (fun c => ?_) (fun c => ?_)
      · have h := h.1 c
        refine m_iconst C dX6_mayStand_130 (by unfold in32; omega) ?_
        exact f_zret C R rfl dX6_mayStand_131 (by decide) h
      · have h := h.2 c
        refine m_iconst C dX6_mayStand_126 (by unfold in32; omega) ?_
        refine m_goto (tgt := 131) C dX6_mayStand_127 (by decide) ?_
        exact f_zret C R rfl dX6_mayStand_131 (by decide) h
    · have h := h.2.2.2.2.2.2.2.1 hx
      refine m_swIn (tgt := 132) (off := 131) C dX6_mayStand_1 (by omega) (by omega) (by rw [hx]; rfl) (by decide) ?_
      refine m_aload_n C dX6_mayStand_132 rfl ?_
      refine f_getI C dX6_mayStand_133 fl_KilnBench_Parser_18 rfl (by decide) (by decide) ?_
      refine m_sipush C dX6_mayStand_136 (by omega) ?_
      refine m_icmp_ne (tgt := 146) C dX6_mayStand_139 (by decide) (fun c => ?_) (fun c => ?_)
      · have h := h.1 c
        refine m_iconst C dX6_mayStand_146 (by unfold in32; omega) ?_
        exact f_zret C R rfl dX6_mayStand_147 (by decide) h
      · have h := h.2 c
        refine m_iconst C dX6_mayStand_142 (by unfold in32; omega) ?_
        refine m_goto (tgt := 147) C dX6_mayStand_143 (by decide) ?_
        exact f_zret C R rfl dX6_mayStand_147 (by decide) h
    · have h := h.2.2.2.2.2.2.2.2.1 hx
      refine m_swIn (tgt := 132) (off := 131) C dX6_mayStand_1 (by omega) (by omega) (by rw [hx]; rfl) (by decide) ?_
      refine m_aload_n C dX6_mayStand_132 rfl ?_
      refine f_getI C dX6_mayStand_133 fl_KilnBench_Parser_18 rfl (by decide) (by decide) ?_
      refine m_sipush C dX6_mayStand_136 (by omega) ?_
      refine m_icmp_ne (tgt := 146) C dX6_mayStand_139 (by decide) (fun c => ?_) (fun c => ?_)
      · have h := h.1 c
        refine m_iconst C dX6_mayStand_146 (by unfold in32; omega) ?_
        exact f_zret C R rfl dX6_mayStand_147 (by decide) h
      · have h := h.2 c
        refine m_iconst C dX6_mayStand_142 (by unfold in32; omega) ?_
        refine m_goto (tgt := 147) C dX6_mayStand_143 (by decide) ?_
        exact f_zret C R rfl dX6_mayStand_147 (by decide) h
    · have h := h.2.2.2.2.2.2.2.2.2.1 hx
      refine m_swIn (tgt := 148) (off := 147) C dX6_mayStand_1 (by omega) (by omega) (by rw [hx]; rfl) (by decide) ?_
      refine m_aload_n C dX6_mayStand_148 rfl ?_
      refine f_getI C dX6_mayStand_149 fl_KilnBench_Parser_18 rfl (by decide) (by decide) ?_
      refine m_sipush C dX6_mayStand_152 (by omega) ?_
      refine m_icmp_ne (tgt := 162) C dX6_mayStand_155 (by decide) (fun c => ?_) (fun c => ?_)
      · have h := h.1 c
        refine m_iconst C dX6_mayStand_162 (by unfold in32; omega) ?_
        exact f_zret C R rfl dX6_mayStand_163 (by decide) h
      · have h := h.2 c
        refine m_iconst C dX6_mayStand_158 (by unfold in32; omega) ?_
        refine m_goto (tgt := 163) C dX6_mayStand_159 (by decide) ?_
        exact f_zret C R rfl dX6_mayStand_163 (by decide) h

set_option maxRecDepth 20000 in
theorem VX6_readTest_0 {G : m_G} {X : m_X} {d : Nat} {K : m_M → Prop} (C : mC G X YX6_readTest (d + 1)) (R : r_v G X K) {μ : m_M}
    (h : c_v G d YX6_readBoth [vR 2 0] μ (fun μ1 => mW G X YX6_readTest μ1 6 [some (vR 2 0), some (vI 0)] [])) :
    mW G X YX6_readTest μ 0 [some (vR 2 0), none] [] := by
  refine m_aload_n C dX6_readTest_0 rfl ?_
  refine f_callVv (As := []) (st := []) C dX6_readTest_1 ml_KilnBench_Parser_169 rfl (by decide) rfl rfl rfl (Nat.le_of_ble_eq_true rfl) h (fun μ1 h => ?_)
  refine m_iconst C dX6_readTest_4 (by unfold in32; omega) ?_
  refine o_istore_n [some (vR 2 0), some (vI 0)] C dX6_readTest_5 (by decide) rfl ?_
  exact h

set_option maxRecDepth 20000 in
theorem VX6_readTest_6 {G : m_G} {X : m_X} {d : Nat} {K : m_M → Prop} (C : mC G X YX6_readTest (d + 1)) (R : r_v G X K) {μ : m_M} {l1 : Int}
    (h : ((1600 ≤ l1) → K μ) ∧ ((¬ 1600 ≤ l1) → ((¬ (μ 3 0 4) = 276) → K μ) ∧ ((μ 3 0 4 = 276) → c_v G d YX7_next [vR 3 0] μ (fun μ1 => c_v G d YX6_readBoth [vR 2 0] μ1 (fun μ2 => ∃ t3 : Nat, μ2 2 0 1 = 100 * (t3 : Int) ∧ m_cls t3 = 9 ∧ c_v G d YX10_addCode [vR t3 0, vI 276] μ2 (fun μ4 => ∀ x5 : Int, x5 = w32 (l1 + 1) → mW G X YX6_readTest μ4 6 [some (vR 2 0), some (vI x5)] [])))))) :
    mW G X YX6_readTest μ 6 [some (vR 2 0), some (vI l1)] [] := by
  refine m_iload_n C dX6_readTest_6 rfl ?_
  refine m_sipush C dX6_readTest_7 (by omega) ?_
  refine m_icmp_ge (tgt := 53) C dX6_readTest_10 (by decide) (fun c => ?_) (fun c => ?_)
  · have h := h.1 c
    exact f_vret C R rfl dX6_readTest_53 h
  · have h := h.2 c
    refine m_aload_n C dX6_readTest_13 rfl ?_
    refine f_getO (t := 3) C dX6_readTest_14 fl_KilnBench_Parser_12 rfl (by decide) (by decide) (by decide) (by decide) ?_
    refine f_getI C dX6_readTest_17 fl_KilnBench_Parser_38 rfl (by decide) (by decide) ?_
    refine m_sipush C dX6_readTest_20 (by omega) ?_
    refine m_icmp_ne (tgt := 53) C dX6_readTest_23 (by decide) (fun c => ?_) (fun c => ?_)
    · have h := h.1 c
      exact f_vret C R rfl dX6_readTest_53 h
    · have h := h.2 c
      refine m_aload_n C dX6_readTest_26 rfl ?_
      refine f_getO (t := 3) C dX6_readTest_27 fl_KilnBench_Parser_12 rfl (by decide) (by decide) (by decide) (by decide) ?_
      refine f_callVv (As := []) (st := []) C dX6_readTest_30 ml_KilnBench_Parser_66 rfl (by decide) rfl rfl rfl (Nat.le_of_ble_eq_true rfl) h (fun μ1 h => ?_)
      refine m_aload_n C dX6_readTest_33 rfl ?_
      refine f_callVv (As := []) (st := []) C dX6_readTest_34 ml_KilnBench_Parser_169 rfl (by decide) rfl rfl rfl (Nat.le_of_ble_eq_true rfl) h (fun μ2 h => ?_)
      refine m_aload_n C dX6_readTest_37 rfl ?_
      obtain ⟨t3, hx_t3, hc_t3, h⟩ := h
      refine f_getR (t := t3) (w := 0) C dX6_readTest_38 fl_KilnBench_Parser_25 rfl (by decide) (by decide) (by rw [hx_t3]; omega) (by decide) (m_cls0 hc_t3 (by decide)) ?_
      refine m_sipush C dX6_readTest_41 (by omega) ?_
      refine f_callVv (As := [vI 276]) (st := []) C dX6_readTest_44 ml_KilnBench_Parser_140 hc_t3 (by decide) rfl rfl rfl (Nat.le_of_ble_eq_true rfl) h (fun μ4 h => ?_)
      refine n_iinc (fun x5 => [some (vR 2 0), some (vI x5)]) C dX6_readTest_47 rfl (by decide) (fun _ => rfl) (fun x5 ex5 => ?_)
      have h := h x5 ex5
      refine m_goto (tgt := 6) C dX6_readTest_50 (by decide) ?_
      exact h

set_option maxRecDepth 20000 in
theorem VX6_readBoth_0 {G : m_G} {X : m_X} {d : Nat} {K : m_M → Prop} (C : mC G X YX6_readBoth (d + 1)) (R : r_v G X K) {μ : m_M}
    (h : c_v G d YX6_readFact [vR 2 0] μ (fun μ1 => mW G X YX6_readBoth μ1 6 [some (vR 2 0), some (vI 0)] [])) :
    mW G X YX6_readBoth μ 0 [some (vR 2 0), none] [] := by
  refine m_aload_n C dX6_readBoth_0 rfl ?_
  refine f_callVv (As := []) (st := []) C dX6_readBoth_1 ml_KilnBench_Parser_172 rfl (by decide) rfl rfl rfl (Nat.le_of_ble_eq_true rfl) h (fun μ1 h => ?_)
  refine m_iconst C dX6_readBoth_4 (by unfold in32; omega) ?_
  refine o_istore_n [some (vR 2 0), some (vI 0)] C dX6_readBoth_5 (by decide) rfl ?_
  exact h

set_option maxRecDepth 20000 in
theorem VX6_readBoth_6 {G : m_G} {X : m_X} {d : Nat} {K : m_M → Prop} (C : mC G X YX6_readBoth (d + 1)) (R : r_v G X K) {μ : m_M} {l1 : Int}
    (h : ((1600 ≤ l1) → K μ) ∧ ((¬ 1600 ≤ l1) → ((¬ (μ 3 0 4) = 277) → K μ) ∧ ((μ 3 0 4 = 277) → c_v G d YX7_next [vR 3 0] μ (fun μ1 => c_v G d YX6_readFact [vR 2 0] μ1 (fun μ2 => ∃ t3 : Nat, μ2 2 0 1 = 100 * (t3 : Int) ∧ m_cls t3 = 9 ∧ c_v G d YX10_addCode [vR t3 0, vI 277] μ2 (fun μ4 => ∀ x5 : Int, x5 = w32 (l1 + 1) → mW G X YX6_readBoth μ4 6 [some (vR 2 0), some (vI x5)] [])))))) :
    mW G X YX6_readBoth μ 6 [some (vR 2 0), some (vI l1)] [] := by
  refine m_iload_n C dX6_readBoth_6 rfl ?_
  refine m_sipush C dX6_readBoth_7 (by omega) ?_
  refine m_icmp_ge (tgt := 53) C dX6_readBoth_10 (by decide) (fun c => ?_) (fun c => ?_)
  · have h := h.1 c
    exact f_vret C R rfl dX6_readBoth_53 h
  · have h := h.2 c
    refine m_aload_n C dX6_readBoth_13 rfl ?_
    refine f_getO (t := 3) C dX6_readBoth_14 fl_KilnBench_Parser_12 rfl (by decide) (by decide) (by decide) (by decide) ?_
    refine f_getI C dX6_readBoth_17 fl_KilnBench_Parser_38 rfl (by decide) (by decide) ?_
    refine m_sipush C dX6_readBoth_20 (by omega) ?_
    refine m_icmp_ne (tgt := 53) C dX6_readBoth_23 (by decide) (fun c => ?_) (fun c => ?_)
    · have h := h.1 c
      exact f_vret C R rfl dX6_readBoth_53 h
    · have h := h.2 c
      refine m_aload_n C dX6_readBoth_26 rfl ?_
      refine f_getO (t := 3) C dX6_readBoth_27 fl_KilnBench_Parser_12 rfl (by decide) (by decide) (by decide) (by decide) ?_
      refine f_callVv (As := []) (st := []) C dX6_readBoth_30 ml_KilnBench_Parser_66 rfl (by decide) rfl rfl rfl (Nat.le_of_ble_eq_true rfl) h (fun μ1 h => ?_)
      refine m_aload_n C dX6_readBoth_33 rfl ?_
      refine f_callVv (As := []) (st := []) C dX6_readBoth_34 ml_KilnBench_Parser_172 rfl (by decide) rfl rfl rfl (Nat.le_of_ble_eq_true rfl) h (fun μ2 h => ?_)
      refine m_aload_n C dX6_readBoth_37 rfl ?_
      obtain ⟨t3, hx_t3, hc_t3, h⟩ := h
      refine f_getR (t := t3) (w := 0) C dX6_readBoth_38 fl_KilnBench_Parser_25 rfl (by decide) (by decide) (by rw [hx_t3]; omega) (by decide) (m_cls0 hc_t3 (by decide)) ?_
      refine m_sipush C dX6_readBoth_41 (by omega) ?_
      refine f_callVv (As := [vI 277]) (st := []) C dX6_readBoth_44 ml_KilnBench_Parser_140 hc_t3 (by decide) rfl rfl rfl (Nat.le_of_ble_eq_true rfl) h (fun μ4 h => ?_)
      refine n_iinc (fun x5 => [some (vR 2 0), some (vI x5)]) C dX6_readBoth_47 rfl (by decide) (fun _ => rfl) (fun x5 ex5 => ?_)
      have h := h x5 ex5
      refine m_goto (tgt := 6) C dX6_readBoth_50 (by decide) ?_
      exact h

set_option maxRecDepth 20000 in
theorem VX6_readFact_0 {G : m_G} {X : m_X} {d : Nat} {K : m_M → Prop} (C : mC G X YX6_readFact (d + 1)) (R : r_v G X K) {μ : m_M}
    (h : ((μ 3 0 4 = 91) → c_i G d YX6_openOne [vR 2 0, vI 91] μ (fun r3 μ2 => ((r3 = 0) → K μ2) ∧ ((¬ r3 = 0) → c_v G d YX6_readTest [vR 2 0] μ2 (fun μ4 => c_v G d YX6_closeOne [vR 2 0, vI 93] μ4 (fun μ5 => K μ5))))) ∧ ((μ 3 0 4 = 278) → c_v G d YX6_readNot [vR 2 0] μ (fun μ6 => K μ6)) ∧ ((μ 3 0 4 = 279) → ∃ t7 : Nat, μ 2 0 1 = 100 * (t7 : Int) ∧ m_cls t7 = 9 ∧ c_v G d YX10_addCode [vR t7 0, vI 279] μ (fun μ8 => c_v G d YX7_next [vR 3 0] μ8 (fun μ9 => K μ9))) ∧ ((¬ μ 3 0 4 = 91 ∧ ¬ μ 3 0 4 = 278 ∧ ¬ μ 3 0 4 = 279) → c_v G d YX6_readComparison [vR 2 0] μ (fun μ1 => K μ1))) :
    mW G X YX6_readFact μ 0 [some (vR 2 0)] [] := by
  refine m_aload_n C dX6_readFact_0 rfl ?_
  refine f_getO (t := 3) C dX6_readFact_1 fl_KilnBench_Parser_12 rfl (by decide) (by decide) (by decide) (by decide) ?_
  refine f_getI C dX6_readFact_4 fl_KilnBench_Parser_38 rfl (by decide) (by decide) ?_
  by_cases hx0 : μ 3 0 4 = 91
  · have h := h.1 hx0
    refine m_lsw (tgt := 47) (off := 40) C dX6_readFact_7 (by decide) (by rw [hx0]; decide) (by decide) ?_
    refine m_aload_n C dX6_readFact_47 rfl ?_
    refine m_bipush C dX6_readFact_48 (by omega) ?_
    refine f_callVi (As := [vI 91]) (st := []) C dX6_readFact_50 ml_KilnBench_Parser_160 rfl (by decide) rfl rfl rfl (Nat.le_of_ble_eq_true rfl) h (fun r3 μ2 h => ?_)
    refine m_if_eq (tgt := 93) C dX6_readFact_53 (by decide) (fun c => ?_) (fun c => ?_)
    · have h := h.1 c
      exact f_vret C R rfl dX6_readFact_93 h
    · have h := h.2 c
      refine m_aload_n C dX6_readFact_56 rfl ?_
      refine f_callVv (As := []) (st := []) C dX6_readFact_57 ml_KilnBench_Parser_98 rfl (by decide) rfl rfl rfl (Nat.le_of_ble_eq_true rfl) h (fun μ4 h => ?_)
      refine m_aload_n C dX6_readFact_60 rfl ?_
      refine m_bipush C dX6_readFact_61 (by omega) ?_
      refine f_callVv (As := [vI 93]) (st := []) C dX6_readFact_63 ml_KilnBench_Parser_163 rfl (by decide) rfl rfl rfl (Nat.le_of_ble_eq_true rfl) h (fun μ5 h => ?_)
      refine m_goto (tgt := 93) C dX6_readFact_66 (by decide) ?_
      exact f_vret C R rfl dX6_readFact_93 h
  by_cases hx1 : μ 3 0 4 = 278
  · have h := h.2.1 hx1
    refine m_lsw (tgt := 40) (off := 33) C dX6_readFact_7 (by decide) (by rw [hx1]; decide) (by decide) ?_
    refine m_aload_n C dX6_readFact_40 rfl ?_
    refine f_callVv (As := []) (st := []) C dX6_readFact_41 ml_KilnBench_Parser_175 rfl (by decide) rfl rfl rfl (Nat.le_of_ble_eq_true rfl) h (fun μ6 h => ?_)
    refine m_goto (tgt := 93) C dX6_readFact_44 (by decide) ?_
    exact f_vret C R rfl dX6_readFact_93 h
  by_cases hx2 : μ 3 0 4 = 279
  · have h := h.2.2.1 hx2
    refine m_lsw (tgt := 69) (off := 62) C dX6_readFact_7 (by decide) (by rw [hx2]; decide) (by decide) ?_
    refine m_aload_n C dX6_readFact_69 rfl ?_
    obtain ⟨t7, hx_t7, hc_t7, h⟩ := h
    refine f_getR (t := t7) (w := 0) C dX6_readFact_70 fl_KilnBench_Parser_25 rfl (by decide) (by decide) (by rw [hx_t7]; omega) (by decide) (m_cls0 hc_t7 (by decide)) ?_
    refine m_sipush C dX6_readFact_73 (by omega) ?_
    refine f_callVv (As := [vI 279]) (st := []) C dX6_readFact_76 ml_KilnBench_Parser_140 hc_t7 (by decide) rfl rfl rfl (Nat.le_of_ble_eq_true rfl) h (fun μ8 h => ?_)
    refine m_aload_n C dX6_readFact_79 rfl ?_
    refine f_getO (t := 3) C dX6_readFact_80 fl_KilnBench_Parser_12 rfl (by decide) (by decide) (by decide) (by decide) ?_
    refine f_callVv (As := []) (st := []) C dX6_readFact_83 ml_KilnBench_Parser_66 rfl (by decide) rfl rfl rfl (Nat.le_of_ble_eq_true rfl) h (fun μ9 h => ?_)
    refine m_goto (tgt := 93) C dX6_readFact_86 (by decide) ?_
    exact f_vret C R rfl dX6_readFact_93 h
  have h := h.2.2.2 ⟨hx0, hx1, hx2⟩
  refine m_lsw (tgt := 89) (off := 82) C dX6_readFact_7 (by decide) (by simp only [Op.lookupswitch.offset]; rw [if_neg (fun e => hx0 e.symm), if_neg (fun e => hx1 e.symm), if_neg (fun e => hx2 e.symm)]) (by decide) ?_
  refine m_aload_n C dX6_readFact_89 rfl ?_
  refine f_callVv (As := []) (st := []) C dX6_readFact_90 ml_KilnBench_Parser_178 rfl (by decide) rfl rfl rfl (Nat.le_of_ble_eq_true rfl) h (fun μ1 h => ?_)
  exact f_vret C R rfl dX6_readFact_93 h

set_option maxRecDepth 20000 in
theorem VX6_readNot_0 {G : m_G} {X : m_X} {d : Nat} {K : m_M → Prop} (C : mC G X YX6_readNot (d + 1)) (R : r_v G X K) {μ : m_M}
    (h : c_i G d YX6_openOne [vR 2 0, vI 278] μ (fun r2 μ1 => ((r2 = 0) → K μ1) ∧ ((¬ r2 = 0) → c_v G d YX6_readFact [vR 2 0] μ1 (fun μ3 => ∀ μ4 : m_M, μ4 = m_up μ3 2 0 3 (w32 ((μ3 2 0 3) - 1)) → ∃ t5 : Nat, μ4 2 0 1 = 100 * (t5 : Int) ∧ m_cls t5 = 9 ∧ c_v G d YX10_addCode [vR t5 0, vI 278] μ4 (fun μ6 => K μ6))))) :
    mW G X YX6_readNot μ 0 [some (vR 2 0)] [] := by
  refine m_aload_n C dX6_readNot_0 rfl ?_
  refine m_sipush C dX6_readNot_1 (by omega) ?_
  refine f_callVi (As := [vI 278]) (st := []) C dX6_readNot_4 ml_KilnBench_Parser_160 rfl (by decide) rfl rfl rfl (Nat.le_of_ble_eq_true rfl) h (fun r2 μ1 h => ?_)
  refine m_if_eq (tgt := 34) C dX6_readNot_7 (by decide) (fun c => ?_) (fun c => ?_)
  · have h := h.1 c
    exact f_vret C R rfl dX6_readNot_34 h
  · have h := h.2 c
    refine m_aload_n C dX6_readNot_10 rfl ?_
    refine f_callVv (As := []) (st := []) C dX6_readNot_11 ml_KilnBench_Parser_172 rfl (by decide) rfl rfl rfl (Nat.le_of_ble_eq_true rfl) h (fun μ3 h => ?_)
    refine m_aload_n C dX6_readNot_14 rfl ?_
    refine m_dup C dX6_readNot_15 rfl ?_
    refine f_getI C dX6_readNot_16 fl_KilnBench_Parser_22 rfl (by decide) (by decide) ?_
    refine m_iconst C dX6_readNot_19 (by unfold in32; omega) ?_
    refine m_isub C dX6_readNot_20 ?_
    refine f_putI C dX6_readNot_21 fl_KilnBench_Parser_22 rfl (by decide) (by decide) (by decide) ?_
    refine n_mem (fun μ4 eμ4 => ?_)
    have h := h μ4 eμ4
    refine m_aload_n C dX6_readNot_24 rfl ?_
    obtain ⟨t5, hx_t5, hc_t5, h⟩ := h
    refine f_getR (t := t5) (w := 0) C dX6_readNot_25 fl_KilnBench_Parser_25 rfl (by decide) (by decide) (by rw [hx_t5]; omega) (by decide) (m_cls0 hc_t5 (by decide)) ?_
    refine m_sipush C dX6_readNot_28 (by omega) ?_
    refine f_callVv (As := [vI 278]) (st := []) C dX6_readNot_31 ml_KilnBench_Parser_140 hc_t5 (by decide) rfl rfl rfl (Nat.le_of_ble_eq_true rfl) h (fun μ6 h => ?_)
    exact f_vret C R rfl dX6_readNot_34 h

set_option maxRecDepth 20000 in
theorem VX6_readComparison_0 {G : m_G} {X : m_X} {d : Nat} {K : m_M → Prop} (C : mC G X YX6_readComparison (d + 1)) (R : r_v G X K) {μ : m_M}
    (h : c_v G d YX6_readSum [vR 2 0] μ (fun μ1 => ∀ x2 : Int, x2 = μ1 3 0 4 → ((x2 = 60) → c_v G d YX7_next [vR 3 0] μ1 (fun μ3 => c_v G d YX6_readSum [vR 2 0] μ3 (fun μ4 => ∃ t5 : Nat, μ4 2 0 1 = 100 * (t5 : Int) ∧ m_cls t5 = 9 ∧ c_v G d YX10_addCode [vR t5 0, vI x2] μ4 (fun μ6 => K μ6)))) ∧ ((¬ x2 = 60) → ((x2 = 62) → c_v G d YX7_next [vR 3 0] μ1 (fun μ7 => c_v G d YX6_readSum [vR 2 0] μ7 (fun μ8 => ∃ t9 : Nat, μ8 2 0 1 = 100 * (t9 : Int) ∧ m_cls t9 = 9 ∧ c_v G d YX10_addCode [vR t9 0, vI x2] μ8 (fun μ10 => K μ10)))) ∧ ((¬ x2 = 62) → ((x2 = 61) → c_v G d YX7_next [vR 3 0] μ1 (fun μ11 => c_v G d YX6_readSum [vR 2 0] μ11 (fun μ12 => ∃ t13 : Nat, μ12 2 0 1 = 100 * (t13 : Int) ∧ m_cls t13 = 9 ∧ c_v G d YX10_addCode [vR t13 0, vI x2] μ12 (fun μ14 => K μ14)))) ∧ ((¬ x2 = 61) → c_v G d YX7_fail [vR 3 0, vI 1, vI (μ1 3 0 5)] μ1 (fun μ15 => K μ15)))))) :
    mW G X YX6_readComparison μ 0 [some (vR 2 0), none] [] := by
  refine m_aload_n C dX6_readComparison_0 rfl ?_
  refine f_callVv (As := []) (st := []) C dX6_readComparison_1 ml_KilnBench_Parser_95 rfl (by decide) rfl rfl rfl (Nat.le_of_ble_eq_true rfl) h (fun μ1 h => ?_)
  refine m_aload_n C dX6_readComparison_4 rfl ?_
  refine f_getO (t := 3) C dX6_readComparison_5 fl_KilnBench_Parser_12 rfl (by decide) (by decide) (by decide) (by decide) ?_
  refine f_getI C dX6_readComparison_8 fl_KilnBench_Parser_38 rfl (by decide) (by decide) ?_
  refine n_istore_n (fun x2 => [some (vR 2 0), some (vI x2)]) C dX6_readComparison_11 (by decide) (fun _ => rfl) (fun x2 ex2 => ?_)
  have h := h x2 ex2
  refine m_iload_n C dX6_readComparison_12 rfl ?_
  refine m_bipush C dX6_readComparison_13 (by omega) ?_
  refine m_icmp_eq (tgt := 46) C dX6_readComparison_15 (by decide) (fun c => ?_) (fun c => ?_)
  · have h := h.1 c
    refine m_aload_n C dX6_readComparison_46 rfl ?_
    refine f_getO (t := 3) C dX6_readComparison_47 fl_KilnBench_Parser_12 rfl (by decide) (by decide) (by decide) (by decide) ?_
    refine f_callVv (As := []) (st := []) C dX6_readComparison_50 ml_KilnBench_Parser_66 rfl (by decide) rfl rfl rfl (Nat.le_of_ble_eq_true rfl) h (fun μ3 h => ?_)
    refine m_aload_n C dX6_readComparison_53 rfl ?_
    refine f_callVv (As := []) (st := []) C dX6_readComparison_54 ml_KilnBench_Parser_95 rfl (by decide) rfl rfl rfl (Nat.le_of_ble_eq_true rfl) h (fun μ4 h => ?_)
    refine m_aload_n C dX6_readComparison_57 rfl ?_
    obtain ⟨t5, hx_t5, hc_t5, h⟩ := h
    refine f_getR (t := t5) (w := 0) C dX6_readComparison_58 fl_KilnBench_Parser_25 rfl (by decide) (by decide) (by rw [hx_t5]; omega) (by decide) (m_cls0 hc_t5 (by decide)) ?_
    refine m_iload_n C dX6_readComparison_61 rfl ?_
    refine f_callVv (As := [vI x2]) (st := []) C dX6_readComparison_62 ml_KilnBench_Parser_140 hc_t5 (by decide) rfl rfl rfl (Nat.le_of_ble_eq_true rfl) h (fun μ6 h => ?_)
    exact f_vret C R rfl dX6_readComparison_65 h
  · have h := h.2 c
    refine m_iload_n C dX6_readComparison_18 rfl ?_
    refine m_bipush C dX6_readComparison_19 (by omega) ?_
    refine m_icmp_eq (tgt := 46) C dX6_readComparison_21 (by decide) (fun c => ?_) (fun c => ?_)
    · have h := h.1 c
      refine m_aload_n C dX6_readComparison_46 rfl ?_
      refine f_getO (t := 3) C dX6_readComparison_47 fl_KilnBench_Parser_12 rfl (by decide) (by decide) (by decide) (by decide) ?_
      refine f_callVv (As := []) (st := []) C dX6_readComparison_50 ml_KilnBench_Parser_66 rfl (by decide) rfl rfl rfl (Nat.le_of_ble_eq_true rfl) h (fun μ7 h => ?_)
      refine m_aload_n C dX6_readComparison_53 rfl ?_
      refine f_callVv (As := []) (st := []) C dX6_readComparison_54 ml_KilnBench_Parser_95 rfl (by decide) rfl rfl rfl (Nat.le_of_ble_eq_true rfl) h (fun μ8 h => ?_)
      refine m_aload_n C dX6_readComparison_57 rfl ?_
      obtain ⟨t9, hx_t9, hc_t9, h⟩ := h
      refine f_getR (t := t9) (w := 0) C dX6_readComparison_58 fl_KilnBench_Parser_25 rfl (by decide) (by decide) (by rw [hx_t9]; omega) (by decide) (m_cls0 hc_t9 (by decide)) ?_
      refine m_iload_n C dX6_readComparison_61 rfl ?_
      refine f_callVv (As := [vI x2]) (st := []) C dX6_readComparison_62 ml_KilnBench_Parser_140 hc_t9 (by decide) rfl rfl rfl (Nat.le_of_ble_eq_true rfl) h (fun μ10 h => ?_)
      exact f_vret C R rfl dX6_readComparison_65 h
    · have h := h.2 c
      refine m_iload_n C dX6_readComparison_24 rfl ?_
      refine m_bipush C dX6_readComparison_25 (by omega) ?_
      refine m_icmp_eq (tgt := 46) C dX6_readComparison_27 (by decide) (fun c => ?_) (fun c => ?_)
      · have h := h.1 c
        refine m_aload_n C dX6_readComparison_46 rfl ?_
        refine f_getO (t := 3) C dX6_readComparison_47 fl_KilnBench_Parser_12 rfl (by decide) (by decide) (by decide) (by decide) ?_
        refine f_callVv (As := []) (st := []) C dX6_readComparison_50 ml_KilnBench_Parser_66 rfl (by decide) rfl rfl rfl (Nat.le_of_ble_eq_true rfl) h (fun μ11 h => ?_)
        refine m_aload_n C dX6_readComparison_53 rfl ?_
        refine f_callVv (As := []) (st := []) C dX6_readComparison_54 ml_KilnBench_Parser_95 rfl (by decide) rfl rfl rfl (Nat.le_of_ble_eq_true rfl) h (fun μ12 h => ?_)
        refine m_aload_n C dX6_readComparison_57 rfl ?_
        obtain ⟨t13, hx_t13, hc_t13, h⟩ := h
        refine f_getR (t := t13) (w := 0) C dX6_readComparison_58 fl_KilnBench_Parser_25 rfl (by decide) (by decide) (by rw [hx_t13]; omega) (by decide) (m_cls0 hc_t13 (by decide)) ?_
        refine m_iload_n C dX6_readComparison_61 rfl ?_
        refine f_callVv (As := [vI x2]) (st := []) C dX6_readComparison_62 ml_KilnBench_Parser_140 hc_t13 (by decide) rfl rfl rfl (Nat.le_of_ble_eq_true rfl) h (fun μ14 h => ?_)
        exact f_vret C R rfl dX6_readComparison_65 h
      · have h := h.2 c
        refine m_aload_n C dX6_readComparison_30 rfl ?_
        refine f_getO (t := 3) C dX6_readComparison_31 fl_KilnBench_Parser_12 rfl (by decide) (by decide) (by decide) (by decide) ?_
        refine m_iconst C dX6_readComparison_34 (by unfold in32; omega) ?_
        refine m_aload_n C dX6_readComparison_35 rfl ?_
        refine f_getO (t := 3) C dX6_readComparison_36 fl_KilnBench_Parser_12 rfl (by decide) (by decide) (by decide) (by decide) ?_
        refine f_getI C dX6_readComparison_39 fl_KilnBench_Parser_56 rfl (by decide) (by decide) ?_
        refine f_callVv (As := [vI 1, vI (μ1 3 0 5)]) (st := []) C dX6_readComparison_42 ml_KilnBench_Parser_59 rfl (by decide) rfl rfl rfl (Nat.le_of_ble_eq_true rfl) h (fun μ15 h => ?_)
        exact f_vret C R rfl dX6_readComparison_45 h

set_option maxRecDepth 20000 in
theorem VX7_start_0 {G : m_G} {X : m_X} {d : Nat} {K : m_M → Prop} (C : mC G X YX7_start (d + 1)) (R : r_v G X K) {μ : m_M} {a2 : Int}
    (h : ∀ μ1 : m_M, μ1 = m_up μ 3 0 1 (100 * ((1 : Nat) : Int) + ((1 : Nat) : Int)) → ∀ μ2 : m_M, μ2 = m_up μ1 3 0 2 (if 1600 < a2 then 1600 else a2) → ∀ μ3 : m_M, μ3 = m_up μ2 3 0 3 0 → ∀ μ4 : m_M, μ4 = m_up μ3 3 0 4 284 → ∀ μ5 : m_M, μ5 = m_up μ4 3 0 7 0 → ∀ μ6 : m_M, μ6 = m_up μ5 3 0 8 (-1) → c_v G d YX7_next [vR 3 0] μ6 (fun μ7 => K μ7)) :
    mW G X YX7_start μ 0 [some (vR 3 0), some (vR 1 1), some (vI a2)] [] := by
  refine m_aload_n C dX7_start_0 rfl ?_
  refine m_aload_n C dX7_start_1 rfl ?_
  refine f_putR C dX7_start_2 fl_KilnBench_Reader_17 rfl (by decide) (by decide) (by decide) (by decide) (by decide) ?_
  refine n_mem (fun μ1 eμ1 => ?_)
  have h := h μ1 eμ1
  refine m_aload_n C dX7_start_5 rfl ?_
  refine m_iload_n C dX7_start_6 rfl ?_
  refine m_aload_n C dX7_start_7 rfl ?_
  refine f_alen C dX7_start_8 (m_arO (a := 1) (len := 1600) rfl rfl) (by decide) (by decide) (by decide) ?_
  refine m_mmin C dX7_start_9 mi_KilnBench_Reader_57 mb_mmins mb_ini mb_mmin (Nat.le_of_ble_eq_true rfl) (Nat.le_refl _) (Nat.le_refl _) ?_
  refine f_putI C dX7_start_12 fl_KilnBench_Reader_21 rfl (by decide) (by decide) (by decide) ?_
  refine n_mem (fun μ2 eμ2 => ?_)
  have h := h μ2 eμ2
  refine m_aload_n C dX7_start_15 rfl ?_
  refine m_iconst C dX7_start_16 (by unfold in32; omega) ?_
  refine f_putI C dX7_start_17 fl_KilnBench_Reader_25 rfl (by decide) (by decide) (by decide) ?_
  refine n_mem (fun μ3 eμ3 => ?_)
  have h := h μ3 eμ3
  refine m_aload_n C dX7_start_20 rfl ?_
  refine m_sipush C dX7_start_21 (by omega) ?_
  refine f_putI C dX7_start_24 fl_KilnBench_Reader_28 rfl (by decide) (by decide) (by decide) ?_
  refine n_mem (fun μ4 eμ4 => ?_)
  have h := h μ4 eμ4
  refine m_aload_n C dX7_start_27 rfl ?_
  refine m_iconst C dX7_start_28 (by unfold in32; omega) ?_
  refine f_putI C dX7_start_29 fl_KilnBench_Reader_37 rfl (by decide) (by decide) (by decide) ?_
  refine n_mem (fun μ5 eμ5 => ?_)
  have h := h μ5 eμ5
  refine m_aload_n C dX7_start_32 rfl ?_
  refine m_iconst C dX7_start_33 (by unfold in32; omega) ?_
  refine f_putI C dX7_start_34 fl_KilnBench_Reader_40 rfl (by decide) (by decide) (by decide) ?_
  refine n_mem (fun μ6 eμ6 => ?_)
  have h := h μ6 eμ6
  refine m_aload_n C dX7_start_37 rfl ?_
  refine f_callVv (As := []) (st := []) C dX7_start_38 ml_KilnBench_Reader_63 rfl (by decide) rfl rfl rfl (Nat.le_of_ble_eq_true rfl) h (fun μ7 h => ?_)
  exact f_vret C R rfl dX7_start_41 h

set_option maxRecDepth 20000 in
theorem VX7_fail_0 {G : m_G} {X : m_X} {d : Nat} {K : m_M → Prop} (C : mC G X YX7_fail (d + 1)) (R : r_v G X K) {μ : m_M} {a1 : Int} {a2 : Int}
    (h : ((¬ (μ 3 0 7) = 0) → ∀ μ1 : m_M, μ1 = m_up μ 3 0 4 285 → K μ1) ∧ ((μ 3 0 7 = 0) → ∀ μ2 : m_M, μ2 = m_up μ 3 0 7 a1 → ∀ μ3 : m_M, μ3 = m_up μ2 3 0 8 a2 → ∀ μ4 : m_M, μ4 = m_up μ3 3 0 4 285 → K μ4)) :
    mW G X YX7_fail μ 0 [some (vR 3 0), some (vI a1), some (vI a2)] [] := by
  refine m_aload_n C dX7_fail_0 rfl ?_
  refine f_getI C dX7_fail_1 fl_KilnBench_Reader_37 rfl (by decide) (by decide) ?_
  refine m_if_ne (tgt := 17) C dX7_fail_4 (by decide) (fun c => ?_) (fun c => ?_)
  · have h := h.1 c
    refine m_aload_n C dX7_fail_17 rfl ?_
    refine m_sipush C dX7_fail_18 (by omega) ?_
    refine f_putI C dX7_fail_21 fl_KilnBench_Reader_28 rfl (by decide) (by decide) (by decide) ?_
    refine n_mem (fun μ1 eμ1 => ?_)
    have h := h μ1 eμ1
    exact f_vret C R rfl dX7_fail_24 h
  · have h := h.2 c
    refine m_aload_n C dX7_fail_7 rfl ?_
    refine m_iload_n C dX7_fail_8 rfl ?_
    refine f_putI C dX7_fail_9 fl_KilnBench_Reader_37 rfl (by decide) (by decide) (by decide) ?_
    refine n_mem (fun μ2 eμ2 => ?_)
    have h := h μ2 eμ2
    refine m_aload_n C dX7_fail_12 rfl ?_
    refine m_iload_n C dX7_fail_13 rfl ?_
    refine f_putI C dX7_fail_14 fl_KilnBench_Reader_40 rfl (by decide) (by decide) (by decide) ?_
    refine n_mem (fun μ3 eμ3 => ?_)
    have h := h μ3 eμ3
    refine m_aload_n C dX7_fail_17 rfl ?_
    refine m_sipush C dX7_fail_18 (by omega) ?_
    refine f_putI C dX7_fail_21 fl_KilnBench_Reader_28 rfl (by decide) (by decide) (by decide) ?_
    refine n_mem (fun μ4 eμ4 => ?_)
    have h := h μ4 eμ4
    exact f_vret C R rfl dX7_fail_24 h

set_option maxRecDepth 20000 in
theorem VX7_next_0 {G : m_G} {X : m_X} {d : Nat} {K : m_M → Prop} (C : mC G X YX7_next (d + 1)) (R : r_v G X K) {μ : m_M}
    (h : ((μ 3 0 7 = 0) → ∀ x1 : Int, x1 = μ 3 0 4 → c_i G d YX7_upcoming [vR 3 0] μ (fun r3 μ2 => ∀ μ4 : m_M, μ4 = m_up μ2 3 0 5 r3 → ((¬ (μ4 3 0 5) = (μ4 3 0 3)) → ((μ4 3 0 5 < μ4 3 0 2) → μ4 3 0 1 = 101 ∧ (0 ≤ μ4 3 0 5 ∧ μ4 3 0 5 < 1600) ∧ c_i G d YX7_isLetter [vI (μ4 1 1 (μ4 3 0 5).toNat)] μ4 (fun r7 μ6 => ((r7 = 0) → μ6 3 0 1 = 101 ∧ (0 ≤ μ6 3 0 5 ∧ μ6 3 0 5 < 1600) ∧ c_i G d YX7_isDigit [vI (μ6 1 1 (μ6 3 0 5).toNat)] μ6 (fun r9 μ8 => ((r9 = 0) → μ8 3 0 1 = 101 ∧ (0 ≤ μ8 3 0 5 ∧ μ8 3 0 5 < 1600) ∧ ∀ μ10 : m_M, μ10 = m_up μ8 3 0 4 (i_and (μ8 1 1 (μ8 3 0 5).toNat) 255) → ∀ μ11 : m_M, μ11 = m_up μ10 3 0 3 (w32 ((μ10 3 0 5) + 1)) → K μ11) ∧ ((¬ r9 = 0) → c_v G d YX7_readNumber [vR 3 0, vI 0] μ8 (fun μ12 => K μ12)))) ∧ ((¬ r7 = 0) → c_v G d YX7_readWord [vR 3 0, vI 0] μ6 (fun μ13 => K μ13)))) ∧ ((¬ μ4 3 0 5 < μ4 3 0 2) → ∀ μ14 : m_M, μ14 = m_up μ4 3 0 4 284 → K μ14)) ∧ ((μ4 3 0 5 = μ4 3 0 3) → ((μ4 3 0 5 < μ4 3 0 2) → μ4 3 0 1 = 101 ∧ (0 ≤ μ4 3 0 5 ∧ μ4 3 0 5 < 1600) ∧ c_i G d YX7_isLetter [vI (μ4 1 1 (μ4 3 0 5).toNat)] μ4 (fun r17 μ16 => ((r17 = 0) → μ16 3 0 1 = 101 ∧ (0 ≤ μ16 3 0 5 ∧ μ16 3 0 5 < 1600) ∧ c_i G d YX7_isDigit [vI (μ16 1 1 (μ16 3 0 5).toNat)] μ16 (fun r19 μ18 => ((r19 = 0) → μ18 3 0 1 = 101 ∧ (0 ≤ μ18 3 0 5 ∧ μ18 3 0 5 < 1600) ∧ ∀ μ20 : m_M, μ20 = m_up μ18 3 0 4 (i_and (μ18 1 1 (μ18 3 0 5).toNat) 255) → ∀ μ21 : m_M, μ21 = m_up μ20 3 0 3 (w32 ((μ20 3 0 5) + 1)) → K μ21) ∧ ((¬ r19 = 0) → c_i G d YX9_isWord [vI x1] μ18 (fun r23 μ22 => ((r23 = 0) → c_v G d YX7_readNumber [vR 3 0, vI 0] μ22 (fun μ24 => K μ24)) ∧ ((¬ r23 = 0) → c_v G d YX7_readNumber [vR 3 0, vI 1] μ22 (fun μ25 => K μ25)))))) ∧ ((¬ r17 = 0) → ((¬ x1 = 283) → c_v G d YX7_readWord [vR 3 0, vI 0] μ16 (fun μ26 => K μ26)) ∧ ((x1 = 283) → c_v G d YX7_readWord [vR 3 0, vI 1] μ16 (fun μ27 => K μ27))))) ∧ ((¬ μ4 3 0 5 < μ4 3 0 2) → ∀ μ28 : m_M, μ28 = m_up μ4 3 0 4 284 → K μ28)))) ∧ ((¬ μ 3 0 7 = 0) → K μ)) :
    mW G X YX7_next μ 0 [some (vR 3 0), none, none] [] := by
  refine m_aload_n C dX7_next_0 rfl ?_
  refine f_getI C dX7_next_1 fl_KilnBench_Reader_37 rfl (by decide) (by decide) ?_
  refine m_if_eq (tgt := 8) C dX7_next_4 (by decide) (fun c => ?_) (fun c => ?_)
  · have h := h.1 c
    refine m_aload_n C dX7_next_8 rfl ?_
    refine f_getI C dX7_next_9 fl_KilnBench_Reader_28 rfl (by decide) (by decide) ?_
    refine n_istore_n (fun x1 => [some (vR 3 0), some (vI x1), none]) C dX7_next_12 (by decide) (fun _ => rfl) (fun x1 ex1 => ?_)
    have h := h x1 ex1
    refine m_aload_n C dX7_next_13 rfl ?_
    refine m_aload_n C dX7_next_14 rfl ?_
    refine f_callVi (As := []) (st := [vR 3 0]) C dX7_next_15 ml_KilnBench_Reader_66 rfl (by decide) rfl rfl rfl (Nat.le_of_ble_eq_true rfl) h (fun r3 μ2 h => ?_)
    refine f_putI C dX7_next_18 fl_KilnBench_Reader_31 rfl (by decide) (by decide) (by decide) ?_
    refine n_mem (fun μ4 eμ4 => ?_)
    have h := h μ4 eμ4
    refine m_aload_n C dX7_next_21 rfl ?_
    refine f_getI C dX7_next_22 fl_KilnBench_Reader_31 rfl (by decide) (by decide) ?_
    refine m_aload_n C dX7_next_25 rfl ?_
    refine f_getI C dX7_next_26 fl_KilnBench_Reader_25 rfl (by decide) (by decide) ?_
    refine m_icmp_ne (tgt := 36) C dX7_next_29 (by decide) (fun c => ?_) (fun c => ?_)
    · have h := h.1 c
      refine m_iconst C dX7_next_36 (by unfold in32; omega) ?_
      refine o_istore_n [some (vR 3 0), some (vI x1), some (vI 0)] C dX7_next_37 (by decide) rfl ?_
      refine m_aload_n C dX7_next_38 rfl ?_
      refine f_getI C dX7_next_39 fl_KilnBench_Reader_31 rfl (by decide) (by decide) ?_
      refine m_aload_n C dX7_next_42 rfl ?_
      refine f_getI C dX7_next_43 fl_KilnBench_Reader_21 rfl (by decide) (by decide) ?_
      refine m_icmp_lt (tgt := 59) C dX7_next_46 (by decide) (fun c => ?_) (fun c => ?_)
      · have h := h.1 c
        refine m_aload_n C dX7_next_59 rfl ?_
        obtain ⟨hx, h⟩ := h
        refine f_getR (t := 1) (w := 1) C dX7_next_60 fl_KilnBench_Reader_17 rfl (by decide) (by decide) (by rw [hx]; rfl) (by decide) (by decide) ?_
        refine m_aload_n C dX7_next_63 rfl ?_
        refine f_getI C dX7_next_64 fl_KilnBench_Reader_31 rfl (by decide) (by decide) ?_
        obtain ⟨hb, h⟩ := h
        refine f_bald C dX7_next_67 (m_arO (a := 1) (len := 1600) rfl rfl) (by decide) hb ?_
        refine f_callSi (As := [vI (μ4 1 1 (μ4 3 0 5).toNat)]) (st := []) C dX7_next_68 ml_KilnBench_Reader_69 rfl rfl (Nat.le_of_ble_eq_true rfl) h (fun r7 μ6 h => ?_)
        refine m_if_eq (tgt := 97) C dX7_next_71 (by decide) (fun c => ?_) (fun c => ?_)
        · have h := h.1 c
          refine m_aload_n C dX7_next_97 rfl ?_
          obtain ⟨hx, h⟩ := h
          refine f_getR (t := 1) (w := 1) C dX7_next_98 fl_KilnBench_Reader_17 rfl (by decide) (by decide) (by rw [hx]; rfl) (by decide) (by decide) ?_
          refine m_aload_n C dX7_next_101 rfl ?_
          refine f_getI C dX7_next_102 fl_KilnBench_Reader_31 rfl (by decide) (by decide) ?_
          obtain ⟨hb, h⟩ := h
          refine f_bald C dX7_next_105 (m_arO (a := 1) (len := 1600) rfl rfl) (by decide) hb ?_
          refine f_callSi (As := [vI (μ6 1 1 (μ6 3 0 5).toNat)]) (st := []) C dX7_next_106 ml_KilnBench_Reader_77 rfl rfl (Nat.le_of_ble_eq_true rfl) h (fun r9 μ8 h => ?_)
          refine m_if_eq (tgt := 135) C dX7_next_109 (by decide) (fun c => ?_) (fun c => ?_)
          · have h := h.1 c
            refine m_aload_n C dX7_next_135 rfl ?_
            refine m_aload_n C dX7_next_136 rfl ?_
            obtain ⟨hx, h⟩ := h
            refine f_getR (t := 1) (w := 1) C dX7_next_137 fl_KilnBench_Reader_17 rfl (by decide) (by decide) (by rw [hx]; rfl) (by decide) (by decide) ?_
            refine m_aload_n C dX7_next_140 rfl ?_
            refine f_getI C dX7_next_141 fl_KilnBench_Reader_31 rfl (by decide) (by decide) ?_
            obtain ⟨hb, h⟩ := h
            refine f_bald C dX7_next_144 (m_arO (a := 1) (len := 1600) rfl rfl) (by decide) hb ?_
            refine m_sipush C dX7_next_145 (by omega) ?_
            refine m_iand C dX7_next_148 ?_
            refine f_putI C dX7_next_149 fl_KilnBench_Reader_28 rfl (by decide) (by decide) (by decide) ?_
            refine n_mem (fun μ10 eμ10 => ?_)
            have h := h μ10 eμ10
            refine m_aload_n C dX7_next_152 rfl ?_
            refine m_aload_n C dX7_next_153 rfl ?_
            refine f_getI C dX7_next_154 fl_KilnBench_Reader_31 rfl (by decide) (by decide) ?_
            refine m_iconst C dX7_next_157 (by unfold in32; omega) ?_
            refine m_iadd C dX7_next_158 ?_
            refine f_putI C dX7_next_159 fl_KilnBench_Reader_25 rfl (by decide) (by decide) (by decide) ?_
            refine n_mem (fun μ11 eμ11 => ?_)
            have h := h μ11 eμ11
            exact f_vret C R rfl dX7_next_162 h
          · have h := h.2 c
            refine m_aload_n C dX7_next_112 rfl ?_
            refine m_iload_n C dX7_next_113 rfl ?_
            refine m_if_eq (tgt := 128) C dX7_next_114 (by decide) (fun c => ?_) (fun c => absurd c (by decide))
            refine m_iconst C dX7_next_128 (by unfold in32; omega) ?_
            refine f_callVv (As := [vI 0]) (st := []) C dX7_next_129 ml_KilnBench_Reader_83 rfl (by decide) rfl rfl rfl (Nat.le_of_ble_eq_true rfl) h (fun μ12 h => ?_)
            refine m_goto (tgt := 162) C dX7_next_132 (by decide) ?_
            exact f_vret C R rfl dX7_next_162 h
        · have h := h.2 c
          refine m_aload_n C dX7_next_74 rfl ?_
          refine m_iload_n C dX7_next_75 rfl ?_
          refine m_if_eq (tgt := 90) C dX7_next_76 (by decide) (fun c => ?_) (fun c => absurd c (by decide))
          refine m_iconst C dX7_next_90 (by unfold in32; omega) ?_
          refine f_callVv (As := [vI 0]) (st := []) C dX7_next_91 ml_KilnBench_Reader_73 rfl (by decide) rfl rfl rfl (Nat.le_of_ble_eq_true rfl) h (fun μ13 h => ?_)
          refine m_goto (tgt := 162) C dX7_next_94 (by decide) ?_
          exact f_vret C R rfl dX7_next_162 h
      · have h := h.2 c
        refine m_aload_n C dX7_next_49 rfl ?_
        refine m_sipush C dX7_next_50 (by omega) ?_
        refine f_putI C dX7_next_53 fl_KilnBench_Reader_28 rfl (by decide) (by decide) (by decide) ?_
        refine n_mem (fun μ14 eμ14 => ?_)
        have h := h μ14 eμ14
        refine m_goto (tgt := 162) C dX7_next_56 (by decide) ?_
        exact f_vret C R rfl dX7_next_162 h
    · have h := h.2 c
      refine m_iconst C dX7_next_32 (by unfold in32; omega) ?_
      refine m_goto (tgt := 37) C dX7_next_33 (by decide) ?_
      refine o_istore_n [some (vR 3 0), some (vI x1), some (vI 1)] C dX7_next_37 (by decide) rfl ?_
      refine m_aload_n C dX7_next_38 rfl ?_
      refine f_getI C dX7_next_39 fl_KilnBench_Reader_31 rfl (by decide) (by decide) ?_
      refine m_aload_n C dX7_next_42 rfl ?_
      refine f_getI C dX7_next_43 fl_KilnBench_Reader_21 rfl (by decide) (by decide) ?_
      refine m_icmp_lt (tgt := 59) C dX7_next_46 (by decide) (fun c => ?_) (fun c => ?_)
      · have h := h.1 c
        refine m_aload_n C dX7_next_59 rfl ?_
        obtain ⟨hx, h⟩ := h
        refine f_getR (t := 1) (w := 1) C dX7_next_60 fl_KilnBench_Reader_17 rfl (by decide) (by decide) (by rw [hx]; rfl) (by decide) (by decide) ?_
        refine m_aload_n C dX7_next_63 rfl ?_
        refine f_getI C dX7_next_64 fl_KilnBench_Reader_31 rfl (by decide) (by decide) ?_
        obtain ⟨hb, h⟩ := h
        refine f_bald C dX7_next_67 (m_arO (a := 1) (len := 1600) rfl rfl) (by decide) hb ?_
        refine f_callSi (As := [vI (μ4 1 1 (μ4 3 0 5).toNat)]) (st := []) C dX7_next_68 ml_KilnBench_Reader_69 rfl rfl (Nat.le_of_ble_eq_true rfl) h (fun r17 μ16 h => ?_)
        refine m_if_eq (tgt := 97) C dX7_next_71 (by decide) (fun c => ?_) (fun c => ?_)
        · have h := h.1 c
          refine m_aload_n C dX7_next_97 rfl ?_
          obtain ⟨hx, h⟩ := h
          refine f_getR (t := 1) (w := 1) C dX7_next_98 fl_KilnBench_Reader_17 rfl (by decide) (by decide) (by rw [hx]; rfl) (by decide) (by decide) ?_
          refine m_aload_n C dX7_next_101 rfl ?_
          refine f_getI C dX7_next_102 fl_KilnBench_Reader_31 rfl (by decide) (by decide) ?_
          obtain ⟨hb, h⟩ := h
          refine f_bald C dX7_next_105 (m_arO (a := 1) (len := 1600) rfl rfl) (by decide) hb ?_
          refine f_callSi (As := [vI (μ16 1 1 (μ16 3 0 5).toNat)]) (st := []) C dX7_next_106 ml_KilnBench_Reader_77 rfl rfl (Nat.le_of_ble_eq_true rfl) h (fun r19 μ18 h => ?_)
          refine m_if_eq (tgt := 135) C dX7_next_109 (by decide) (fun c => ?_) (fun c => ?_)
          · have h := h.1 c
            refine m_aload_n C dX7_next_135 rfl ?_
            refine m_aload_n C dX7_next_136 rfl ?_
            obtain ⟨hx, h⟩ := h
            refine f_getR (t := 1) (w := 1) C dX7_next_137 fl_KilnBench_Reader_17 rfl (by decide) (by decide) (by rw [hx]; rfl) (by decide) (by decide) ?_
            refine m_aload_n C dX7_next_140 rfl ?_
            refine f_getI C dX7_next_141 fl_KilnBench_Reader_31 rfl (by decide) (by decide) ?_
            obtain ⟨hb, h⟩ := h
            refine f_bald C dX7_next_144 (m_arO (a := 1) (len := 1600) rfl rfl) (by decide) hb ?_
            refine m_sipush C dX7_next_145 (by omega) ?_
            refine m_iand C dX7_next_148 ?_
            refine f_putI C dX7_next_149 fl_KilnBench_Reader_28 rfl (by decide) (by decide) (by decide) ?_
            refine n_mem (fun μ20 eμ20 => ?_)
            have h := h μ20 eμ20
            refine m_aload_n C dX7_next_152 rfl ?_
            refine m_aload_n C dX7_next_153 rfl ?_
            refine f_getI C dX7_next_154 fl_KilnBench_Reader_31 rfl (by decide) (by decide) ?_
            refine m_iconst C dX7_next_157 (by unfold in32; omega) ?_
            refine m_iadd C dX7_next_158 ?_
            refine f_putI C dX7_next_159 fl_KilnBench_Reader_25 rfl (by decide) (by decide) (by decide) ?_
            refine n_mem (fun μ21 eμ21 => ?_)
            have h := h μ21 eμ21
            exact f_vret C R rfl dX7_next_162 h
          · have h := h.2 c
            refine m_aload_n C dX7_next_112 rfl ?_
            refine m_iload_n C dX7_next_113 rfl ?_
            refine m_if_eq (tgt := 128) C dX7_next_114 (by decide) (fun c => absurd c (by decide)) (fun c => ?_)
            refine m_iload_n C dX7_next_117 rfl ?_
            refine f_callSi (As := [vI x1]) (st := [vR 3 0]) C dX7_next_118 ml_KilnBench_Reader_80 rfl rfl (Nat.le_of_ble_eq_true rfl) h (fun r23 μ22 h => ?_)
            refine m_if_eq (tgt := 128) C dX7_next_121 (by decide) (fun c => ?_) (fun c => ?_)
            · have h := h.1 c
              refine m_iconst C dX7_next_128 (by unfold in32; omega) ?_
              refine f_callVv (As := [vI 0]) (st := []) C dX7_next_129 ml_KilnBench_Reader_83 rfl (by decide) rfl rfl rfl (Nat.le_of_ble_eq_true rfl) h (fun μ24 h => ?_)
              refine m_goto (tgt := 162) C dX7_next_132 (by decide) ?_
              exact f_vret C R rfl dX7_next_162 h
            · have h := h.2 c
              refine m_iconst C dX7_next_124 (by unfold in32; omega) ?_
              refine m_goto (tgt := 129) C dX7_next_125 (by decide) ?_
              refine f_callVv (As := [vI 1]) (st := []) C dX7_next_129 ml_KilnBench_Reader_83 rfl (by decide) rfl rfl rfl (Nat.le_of_ble_eq_true rfl) h (fun μ25 h => ?_)
              refine m_goto (tgt := 162) C dX7_next_132 (by decide) ?_
              exact f_vret C R rfl dX7_next_162 h
        · have h := h.2 c
          refine m_aload_n C dX7_next_74 rfl ?_
          refine m_iload_n C dX7_next_75 rfl ?_
          refine m_if_eq (tgt := 90) C dX7_next_76 (by decide) (fun c => absurd c (by decide)) (fun c => ?_)
          refine m_iload_n C dX7_next_79 rfl ?_
          refine m_sipush C dX7_next_80 (by omega) ?_
          refine m_icmp_ne (tgt := 90) C dX7_next_83 (by decide) (fun c => ?_) (fun c => ?_)
          · have h := h.1 c
            refine m_iconst C dX7_next_90 (by unfold in32; omega) ?_
            refine f_callVv (As := [vI 0]) (st := []) C dX7_next_91 ml_KilnBench_Reader_73 rfl (by decide) rfl rfl rfl (Nat.le_of_ble_eq_true rfl) h (fun μ26 h => ?_)
            refine m_goto (tgt := 162) C dX7_next_94 (by decide) ?_
            exact f_vret C R rfl dX7_next_162 h
          · have h := h.2 c
            refine m_iconst C dX7_next_86 (by unfold in32; omega) ?_
            refine m_goto (tgt := 91) C dX7_next_87 (by decide) ?_
            refine f_callVv (As := [vI 1]) (st := []) C dX7_next_91 ml_KilnBench_Reader_73 rfl (by decide) rfl rfl rfl (Nat.le_of_ble_eq_true rfl) h (fun μ27 h => ?_)
            refine m_goto (tgt := 162) C dX7_next_94 (by decide) ?_
            exact f_vret C R rfl dX7_next_162 h
      · have h := h.2 c
        refine m_aload_n C dX7_next_49 rfl ?_
        refine m_sipush C dX7_next_50 (by omega) ?_
        refine f_putI C dX7_next_53 fl_KilnBench_Reader_28 rfl (by decide) (by decide) (by decide) ?_
        refine n_mem (fun μ28 eμ28 => ?_)
        have h := h μ28 eμ28
        refine m_goto (tgt := 162) C dX7_next_56 (by decide) ?_
        exact f_vret C R rfl dX7_next_162 h
  · have h := h.2 c
    exact f_vret C R rfl dX7_next_7 h

set_option maxRecDepth 20000 in
theorem VX7_upcoming_0 {G : m_G} {X : m_X} {d : Nat} {K : Int → m_M → Prop} (C : mC G X YX7_upcoming (d + 1)) (R : r_i G X K) {μ : m_M}
    (h : ∀ x1 : Int, x1 = μ 3 0 3 → mW G X YX7_upcoming μ 5 [some (vR 3 0), some (vI x1)] []) :
    mW G X YX7_upcoming μ 0 [some (vR 3 0), none] [] := by
  refine m_aload_n C dX7_upcoming_0 rfl ?_
  refine f_getI C dX7_upcoming_1 fl_KilnBench_Reader_25 rfl (by decide) (by decide) ?_
  refine n_istore_n (fun x1 => [some (vR 3 0), some (vI x1)]) C dX7_upcoming_4 (by decide) (fun _ => rfl) (fun x1 ex1 => ?_)
  have h := h x1 ex1
  exact h

set_option maxRecDepth 20000 in
theorem VX7_upcoming_5 {G : m_G} {X : m_X} {d : Nat} {K : Int → m_M → Prop} (C : mC G X YX7_upcoming (d + 1)) (R : r_i G X K) {μ : m_M} {l1 : Int}
    (h : ((μ 3 0 2 ≤ l1) → K l1 μ) ∧ ((¬ μ 3 0 2 ≤ l1) → μ 3 0 1 = 101 ∧ (0 ≤ l1 ∧ l1 < 1600) ∧ c_i G d YX7_isBlank [vI (μ 1 1 l1.toNat)] μ (fun r2 μ1 => ((r2 = 0) → K l1 μ1) ∧ ((¬ r2 = 0) → ∀ x3 : Int, x3 = w32 (l1 + 1) → mW G X YX7_upcoming μ1 5 [some (vR 3 0), some (vI x3)] [])))) :
    mW G X YX7_upcoming μ 5 [some (vR 3 0), some (vI l1)] [] := by
  refine m_iload_n C dX7_upcoming_5 rfl ?_
  refine m_aload_n C dX7_upcoming_6 rfl ?_
  refine f_getI C dX7_upcoming_7 fl_KilnBench_Reader_21 rfl (by decide) (by decide) ?_
  refine m_icmp_ge (tgt := 31) C dX7_upcoming_10 (by decide) (fun c => ?_) (fun c => ?_)
  · have h := h.1 c
    refine m_iload_n C dX7_upcoming_31 rfl ?_
    exact f_iret C R rfl dX7_upcoming_32 h
  · have h := h.2 c
    refine m_aload_n C dX7_upcoming_13 rfl ?_
    obtain ⟨hx, h⟩ := h
    refine f_getR (t := 1) (w := 1) C dX7_upcoming_14 fl_KilnBench_Reader_17 rfl (by decide) (by decide) (by rw [hx]; rfl) (by decide) (by decide) ?_
    refine m_iload_n C dX7_upcoming_17 rfl ?_
    obtain ⟨hb, h⟩ := h
    refine f_bald C dX7_upcoming_18 (m_arO (a := 1) (len := 1600) rfl rfl) (by decide) hb ?_
    refine f_callSi (As := [vI (μ 1 1 l1.toNat)]) (st := []) C dX7_upcoming_19 ml_KilnBench_Reader_86 rfl rfl (Nat.le_of_ble_eq_true rfl) h (fun r2 μ1 h => ?_)
    refine m_if_eq (tgt := 31) C dX7_upcoming_22 (by decide) (fun c => ?_) (fun c => ?_)
    · have h := h.1 c
      refine m_iload_n C dX7_upcoming_31 rfl ?_
      exact f_iret C R rfl dX7_upcoming_32 h
    · have h := h.2 c
      refine n_iinc (fun x3 => [some (vR 3 0), some (vI x3)]) C dX7_upcoming_25 rfl (by decide) (fun _ => rfl) (fun x3 ex3 => ?_)
      have h := h x3 ex3
      refine m_goto (tgt := 5) C dX7_upcoming_28 (by decide) ?_
      exact h

set_option maxRecDepth 20000 in
theorem VX7_isAtEnd_0 {G : m_G} {X : m_X} {d : Nat} {K : Int → m_M → Prop} (C : mC G X YX7_isAtEnd (d + 1)) (R : r_i G X K) {μ : m_M}
    (h : c_i G d YX7_upcoming [vR 3 0] μ (fun r2 μ1 => ((r2 < μ1 3 0 2) → K 0 μ1) ∧ ((¬ r2 < μ1 3 0 2) → K 1 μ1))) :
    mW G X YX7_isAtEnd μ 0 [some (vR 3 0)] [] := by
  refine m_aload_n C dX7_isAtEnd_0 rfl ?_
  refine f_callVi (As := []) (st := []) C dX7_isAtEnd_1 ml_KilnBench_Reader_66 rfl (by decide) rfl rfl rfl (Nat.le_of_ble_eq_true rfl) h (fun r2 μ1 h => ?_)
  refine m_aload_n C dX7_isAtEnd_4 rfl ?_
  refine f_getI C dX7_isAtEnd_5 fl_KilnBench_Reader_21 rfl (by decide) (by decide) ?_
  refine m_icmp_lt (tgt := 15) C dX7_isAtEnd_8 (by decide) (fun c => ?_) (fun c => ?_)
  · have h := h.1 c
    refine m_iconst C dX7_isAtEnd_15 (by unfold in32; omega) ?_
    exact f_zret C R rfl dX7_isAtEnd_16 (by decide) h
  · have h := h.2 c
    refine m_iconst C dX7_isAtEnd_11 (by unfold in32; omega) ?_
    refine m_goto (tgt := 16) C dX7_isAtEnd_12 (by decide) ?_
    exact f_zret C R rfl dX7_isAtEnd_16 (by decide) h

set_option maxRecDepth 20000 in
theorem VX7_readWord_0 {G : m_G} {X : m_X} {d : Nat} {K : m_M → Prop} (C : mC G X YX7_readWord (d + 1)) (R : r_v G X K) {μ : m_M} {a1 : Int}
    (h : ((a1 = 0) → ∀ μ1 : m_M, μ1 = m_up μ 3 0 6 0 → ∀ x2 : Int, x2 = μ1 3 0 5 → mW G X YX7_readWord μ1 24 [some (vR 3 0), some (vI a1), some (vI x2)] []) ∧ ((¬ a1 = 0) → c_v G d YX7_fail [vR 3 0, vI 1, vI (μ 3 0 5)] μ (fun μ3 => K μ3))) :
    mW G X YX7_readWord μ 0 [some (vR 3 0), some (vI a1), none] [] := by
  refine m_iload_n C dX7_readWord_0 rfl ?_
  refine m_if_eq (tgt := 14) C dX7_readWord_1 (by decide) (fun c => ?_) (fun c => ?_)
  · have h := h.1 c
    refine m_aload_n C dX7_readWord_14 rfl ?_
    refine m_iconst C dX7_readWord_15 (by unfold in32; omega) ?_
    refine f_putI C dX7_readWord_16 fl_KilnBench_Reader_34 rfl (by decide) (by decide) (by decide) ?_
    refine n_mem (fun μ1 eμ1 => ?_)
    have h := h μ1 eμ1
    refine m_aload_n C dX7_readWord_19 rfl ?_
    refine f_getI C dX7_readWord_20 fl_KilnBench_Reader_31 rfl (by decide) (by decide) ?_
    refine n_istore_n (fun x2 => [some (vR 3 0), some (vI a1), some (vI x2)]) C dX7_readWord_23 (by decide) (fun _ => rfl) (fun x2 ex2 => ?_)
    have h := h x2 ex2
    exact h
  · have h := h.2 c
    refine m_aload_n C dX7_readWord_4 rfl ?_
    refine m_iconst C dX7_readWord_5 (by unfold in32; omega) ?_
    refine m_aload_n C dX7_readWord_6 rfl ?_
    refine f_getI C dX7_readWord_7 fl_KilnBench_Reader_31 rfl (by decide) (by decide) ?_
    refine f_callVv (As := [vI 1, vI (μ 3 0 5)]) (st := []) C dX7_readWord_10 ml_KilnBench_Reader_89 rfl (by decide) rfl rfl rfl (Nat.le_of_ble_eq_true rfl) h (fun μ3 h => ?_)
    exact f_vret C R rfl dX7_readWord_13 h

set_option maxRecDepth 20000 in
theorem VX7_readWord_24 {G : m_G} {X : m_X} {d : Nat} {K : m_M → Prop} (C : mC G X YX7_readWord (d + 1)) (R : r_v G X K) {μ : m_M} {a1 : Int} {l2 : Int}
    (h : ((μ 3 0 2 ≤ l2) → ∀ μ1 : m_M, μ1 = m_up μ 3 0 3 l2 → c_i G d YX7_tokenOf [vR 3 0, vI (μ1 3 0 6)] μ1 (fun r3 μ2 => ∀ μ4 : m_M, μ4 = m_up μ2 3 0 4 r3 → K μ4)) ∧ ((¬ μ 3 0 2 ≤ l2) → μ 3 0 1 = 101 ∧ (0 ≤ l2 ∧ l2 < 1600) ∧ c_i G d YX7_isLetter [vI (μ 1 1 l2.toNat)] μ (fun r6 μ5 => ((r6 = 0) → ∀ μ7 : m_M, μ7 = m_up μ5 3 0 3 l2 → c_i G d YX7_tokenOf [vR 3 0, vI (μ7 3 0 6)] μ7 (fun r9 μ8 => ∀ μ10 : m_M, μ10 = m_up μ8 3 0 4 r9 → K μ10)) ∧ ((¬ r6 = 0) → ((w32 (l2 - (μ5 3 0 5)) < 6) → μ5 3 0 1 = 101 ∧ (0 ≤ l2 ∧ l2 < 1600) ∧ (0 ≤ w32 (l2 - (μ5 3 0 5)) ∧ w32 (l2 - (μ5 3 0 5)) < 6) ∧ ∀ μ11 : m_M, μ11 = m_up μ5 3 0 6 (w32 ((μ5 3 0 6) + (w32 ((w32 ((w32 ((μ5 1 1 l2.toNat) - 97)) + 1)) * ((m_lwL.getD (w32 (l2 - (μ5 3 0 5))).toNat 0).toInt))))) → ∀ x12 : Int, x12 = w32 (l2 + 1) → mW G X YX7_readWord μ11 24 [some (vR 3 0), some (vI a1), some (vI x12)] []) ∧ ((¬ w32 (l2 - (μ5 3 0 5)) < 6) → c_v G d YX7_fail [vR 3 0, vI 1, vI l2] μ5 (fun μ13 => K μ13)))))) :
    mW G X YX7_readWord μ 24 [some (vR 3 0), some (vI a1), some (vI l2)] [] := by
  refine m_iload_n C dX7_readWord_24 rfl ?_
  refine m_aload_n C dX7_readWord_25 rfl ?_
  refine f_getI C dX7_readWord_26 fl_KilnBench_Reader_21 rfl (by decide) (by decide) ?_
  refine m_icmp_ge (tgt := 99) C dX7_readWord_29 (by decide) (fun c => ?_) (fun c => ?_)
  · have h := h.1 c
    refine m_aload_n C dX7_readWord_99 rfl ?_
    refine m_iload_n C dX7_readWord_100 rfl ?_
    refine f_putI C dX7_readWord_101 fl_KilnBench_Reader_25 rfl (by decide) (by decide) (by decide) ?_
    refine n_mem (fun μ1 eμ1 => ?_)
    have h := h μ1 eμ1
    refine m_aload_n C dX7_readWord_104 rfl ?_
    refine m_aload_n C dX7_readWord_105 rfl ?_
    refine m_aload_n C dX7_readWord_106 rfl ?_
    refine f_getI C dX7_readWord_107 fl_KilnBench_Reader_34 rfl (by decide) (by decide) ?_
    refine f_callVi (As := [vI (μ1 3 0 6)]) (st := [vR 3 0]) C dX7_readWord_110 ml_KilnBench_Reader_93 rfl (by decide) rfl rfl rfl (Nat.le_of_ble_eq_true rfl) h (fun r3 μ2 h => ?_)
    refine f_putI C dX7_readWord_113 fl_KilnBench_Reader_28 rfl (by decide) (by decide) (by decide) ?_
    refine n_mem (fun μ4 eμ4 => ?_)
    have h := h μ4 eμ4
    exact f_vret C R rfl dX7_readWord_116 h
  · have h := h.2 c
    refine m_aload_n C dX7_readWord_32 rfl ?_
    obtain ⟨hx, h⟩ := h
    refine f_getR (t := 1) (w := 1) C dX7_readWord_33 fl_KilnBench_Reader_17 rfl (by decide) (by decide) (by rw [hx]; rfl) (by decide) (by decide) ?_
    refine m_iload_n C dX7_readWord_36 rfl ?_
    obtain ⟨hb, h⟩ := h
    refine f_bald C dX7_readWord_37 (m_arO (a := 1) (len := 1600) rfl rfl) (by decide) hb ?_
    refine f_callSi (As := [vI (μ 1 1 l2.toNat)]) (st := []) C dX7_readWord_38 ml_KilnBench_Reader_69 rfl rfl (Nat.le_of_ble_eq_true rfl) h (fun r6 μ5 h => ?_)
    refine m_if_eq (tgt := 99) C dX7_readWord_41 (by decide) (fun c => ?_) (fun c => ?_)
    · have h := h.1 c
      refine m_aload_n C dX7_readWord_99 rfl ?_
      refine m_iload_n C dX7_readWord_100 rfl ?_
      refine f_putI C dX7_readWord_101 fl_KilnBench_Reader_25 rfl (by decide) (by decide) (by decide) ?_
      refine n_mem (fun μ7 eμ7 => ?_)
      have h := h μ7 eμ7
      refine m_aload_n C dX7_readWord_104 rfl ?_
      refine m_aload_n C dX7_readWord_105 rfl ?_
      refine m_aload_n C dX7_readWord_106 rfl ?_
      refine f_getI C dX7_readWord_107 fl_KilnBench_Reader_34 rfl (by decide) (by decide) ?_
      refine f_callVi (As := [vI (μ7 3 0 6)]) (st := [vR 3 0]) C dX7_readWord_110 ml_KilnBench_Reader_93 rfl (by decide) rfl rfl rfl (Nat.le_of_ble_eq_true rfl) h (fun r9 μ8 h => ?_)
      refine f_putI C dX7_readWord_113 fl_KilnBench_Reader_28 rfl (by decide) (by decide) (by decide) ?_
      refine n_mem (fun μ10 eμ10 => ?_)
      have h := h μ10 eμ10
      exact f_vret C R rfl dX7_readWord_116 h
    · have h := h.2 c
      refine m_iload_n C dX7_readWord_44 rfl ?_
      refine m_aload_n C dX7_readWord_45 rfl ?_
      refine f_getI C dX7_readWord_46 fl_KilnBench_Reader_31 rfl (by decide) (by decide) ?_
      refine m_isub C dX7_readWord_49 ?_
      refine m_bipush C dX7_readWord_50 (by omega) ?_
      refine m_icmp_lt (tgt := 62) C dX7_readWord_52 (by decide) (fun c => ?_) (fun c => ?_)
      · have h := h.1 c
        refine m_aload_n C dX7_readWord_62 rfl ?_
        refine m_dup C dX7_readWord_63 rfl ?_
        refine f_getI C dX7_readWord_64 fl_KilnBench_Reader_34 rfl (by decide) (by decide) ?_
        refine m_aload_n C dX7_readWord_67 rfl ?_
        obtain ⟨hx, h⟩ := h
        refine f_getR (t := 1) (w := 1) C dX7_readWord_68 fl_KilnBench_Reader_17 rfl (by decide) (by decide) (by rw [hx]; rfl) (by decide) (by decide) ?_
        refine m_iload_n C dX7_readWord_71 rfl ?_
        obtain ⟨hb, h⟩ := h
        refine f_bald C dX7_readWord_72 (m_arO (a := 1) (len := 1600) rfl rfl) (by decide) hb ?_
        refine m_bipush C dX7_readWord_73 (by omega) ?_
        refine m_isub C dX7_readWord_75 ?_
        refine m_iconst C dX7_readWord_76 (by unfold in32; omega) ?_
        refine m_iadd C dX7_readWord_77 ?_
        refine m_getLW C dX7_readWord_78 fs_KilnBench_Reader_54 ?_
        refine m_iload_n C dX7_readWord_81 rfl ?_
        refine m_aload_n C dX7_readWord_82 rfl ?_
        refine f_getI C dX7_readWord_83 fl_KilnBench_Reader_31 rfl (by decide) (by decide) ?_
        refine m_isub C dX7_readWord_86 ?_
        obtain ⟨hb, h⟩ := h
        refine m_ldLW C dX7_readWord_87 hb.1 hb.2 ?_
        refine m_imul C dX7_readWord_88 ?_
        refine m_iadd C dX7_readWord_89 ?_
        refine f_putI C dX7_readWord_90 fl_KilnBench_Reader_34 rfl (by decide) (by decide) (by decide) ?_
        refine n_mem (fun μ11 eμ11 => ?_)
        have h := h μ11 eμ11
        refine n_iinc (fun x12 => [some (vR 3 0), some (vI a1), some (vI x12)]) C dX7_readWord_93 rfl (by decide) (fun _ => rfl) (fun x12 ex12 => ?_)
        have h := h x12 ex12
        refine m_goto (tgt := 24) C dX7_readWord_96 (by decide) ?_
        exact h
      · have h := h.2 c
        refine m_aload_n C dX7_readWord_55 rfl ?_
        refine m_iconst C dX7_readWord_56 (by unfold in32; omega) ?_
        refine m_iload_n C dX7_readWord_57 rfl ?_
        refine f_callVv (As := [vI 1, vI l2]) (st := []) C dX7_readWord_58 ml_KilnBench_Reader_89 rfl (by decide) rfl rfl rfl (Nat.le_of_ble_eq_true rfl) h (fun μ13 h => ?_)
        exact f_vret C R rfl dX7_readWord_61 h

set_option maxRecDepth 20000 in
theorem VX7_readNumber_0 {G : m_G} {X : m_X} {d : Nat} {K : m_M → Prop} (C : mC G X YX7_readNumber (d + 1)) (R : r_v G X K) {μ : m_M} {a1 : Int}
    (h : ((a1 = 0) → ∀ μ1 : m_M, μ1 = m_up μ 3 0 6 0 → ∀ x2 : Int, x2 = μ1 3 0 5 → mW G X YX7_readNumber μ1 24 [some (vR 3 0), some (vI a1), some (vI x2)] []) ∧ ((¬ a1 = 0) → c_v G d YX7_fail [vR 3 0, vI 1, vI (μ 3 0 5)] μ (fun μ3 => K μ3))) :
    mW G X YX7_readNumber μ 0 [some (vR 3 0), some (vI a1), none] [] := by
  refine m_iload_n C dX7_readNumber_0 rfl ?_
  refine m_if_eq (tgt := 14) C dX7_readNumber_1 (by decide) (fun c => ?_) (fun c => ?_)
  · have h := h.1 c
    refine m_aload_n C dX7_readNumber_14 rfl ?_
    refine m_iconst C dX7_readNumber_15 (by unfold in32; omega) ?_
    refine f_putI C dX7_readNumber_16 fl_KilnBench_Reader_34 rfl (by decide) (by decide) (by decide) ?_
    refine n_mem (fun μ1 eμ1 => ?_)
    have h := h μ1 eμ1
    refine m_aload_n C dX7_readNumber_19 rfl ?_
    refine f_getI C dX7_readNumber_20 fl_KilnBench_Reader_31 rfl (by decide) (by decide) ?_
    refine n_istore_n (fun x2 => [some (vR 3 0), some (vI a1), some (vI x2)]) C dX7_readNumber_23 (by decide) (fun _ => rfl) (fun x2 ex2 => ?_)
    have h := h x2 ex2
    exact h
  · have h := h.2 c
    refine m_aload_n C dX7_readNumber_4 rfl ?_
    refine m_iconst C dX7_readNumber_5 (by unfold in32; omega) ?_
    refine m_aload_n C dX7_readNumber_6 rfl ?_
    refine f_getI C dX7_readNumber_7 fl_KilnBench_Reader_31 rfl (by decide) (by decide) ?_
    refine f_callVv (As := [vI 1, vI (μ 3 0 5)]) (st := []) C dX7_readNumber_10 ml_KilnBench_Reader_89 rfl (by decide) rfl rfl rfl (Nat.le_of_ble_eq_true rfl) h (fun μ3 h => ?_)
    exact f_vret C R rfl dX7_readNumber_13 h

set_option maxRecDepth 20000 in
theorem VX7_readNumber_24 {G : m_G} {X : m_X} {d : Nat} {K : m_M → Prop} (C : mC G X YX7_readNumber (d + 1)) (R : r_v G X K) {μ : m_M} {a1 : Int} {l2 : Int}
    (h : ((μ 3 0 2 ≤ l2) → ∀ μ1 : m_M, μ1 = m_up μ 3 0 3 l2 → ∀ μ2 : m_M, μ2 = m_up μ1 3 0 4 283 → K μ2) ∧ ((¬ μ 3 0 2 ≤ l2) → μ 3 0 1 = 101 ∧ (0 ≤ l2 ∧ l2 < 1600) ∧ c_i G d YX7_isDigit [vI (μ 1 1 l2.toNat)] μ (fun r4 μ3 => ((r4 = 0) → ∀ μ5 : m_M, μ5 = m_up μ3 3 0 3 l2 → ∀ μ6 : m_M, μ6 = m_up μ5 3 0 4 283 → K μ6) ∧ ((¬ r4 = 0) → ((w32 (l2 - (μ3 3 0 5)) < 4) → μ3 3 0 1 = 101 ∧ (0 ≤ l2 ∧ l2 < 1600) ∧ ∀ μ7 : m_M, μ7 = m_up μ3 3 0 6 (w32 ((w32 ((w32 (10 * (μ3 3 0 6))) + (μ3 1 1 l2.toNat))) - 48)) → ∀ x8 : Int, x8 = w32 (l2 + 1) → mW G X YX7_readNumber μ7 24 [some (vR 3 0), some (vI a1), some (vI x8)] []) ∧ ((¬ w32 (l2 - (μ3 3 0 5)) < 4) → c_v G d YX7_fail [vR 3 0, vI 1, vI l2] μ3 (fun μ9 => K μ9)))))) :
    mW G X YX7_readNumber μ 24 [some (vR 3 0), some (vI a1), some (vI l2)] [] := by
  refine m_iload_n C dX7_readNumber_24 rfl ?_
  refine m_aload_n C dX7_readNumber_25 rfl ?_
  refine f_getI C dX7_readNumber_26 fl_KilnBench_Reader_21 rfl (by decide) (by decide) ?_
  refine m_icmp_ge (tgt := 88) C dX7_readNumber_29 (by decide) (fun c => ?_) (fun c => ?_)
  · have h := h.1 c
    refine m_aload_n C dX7_readNumber_88 rfl ?_
    refine m_iload_n C dX7_readNumber_89 rfl ?_
    refine f_putI C dX7_readNumber_90 fl_KilnBench_Reader_25 rfl (by decide) (by decide) (by decide) ?_
    refine n_mem (fun μ1 eμ1 => ?_)
    have h := h μ1 eμ1
    refine m_aload_n C dX7_readNumber_93 rfl ?_
    refine m_sipush C dX7_readNumber_94 (by omega) ?_
    refine f_putI C dX7_readNumber_97 fl_KilnBench_Reader_28 rfl (by decide) (by decide) (by decide) ?_
    refine n_mem (fun μ2 eμ2 => ?_)
    have h := h μ2 eμ2
    exact f_vret C R rfl dX7_readNumber_100 h
  · have h := h.2 c
    refine m_aload_n C dX7_readNumber_32 rfl ?_
    obtain ⟨hx, h⟩ := h
    refine f_getR (t := 1) (w := 1) C dX7_readNumber_33 fl_KilnBench_Reader_17 rfl (by decide) (by decide) (by rw [hx]; rfl) (by decide) (by decide) ?_
    refine m_iload_n C dX7_readNumber_36 rfl ?_
    obtain ⟨hb, h⟩ := h
    refine f_bald C dX7_readNumber_37 (m_arO (a := 1) (len := 1600) rfl rfl) (by decide) hb ?_
    refine f_callSi (As := [vI (μ 1 1 l2.toNat)]) (st := []) C dX7_readNumber_38 ml_KilnBench_Reader_77 rfl rfl (Nat.le_of_ble_eq_true rfl) h (fun r4 μ3 h => ?_)
    refine m_if_eq (tgt := 88) C dX7_readNumber_41 (by decide) (fun c => ?_) (fun c => ?_)
    · have h := h.1 c
      refine m_aload_n C dX7_readNumber_88 rfl ?_
      refine m_iload_n C dX7_readNumber_89 rfl ?_
      refine f_putI C dX7_readNumber_90 fl_KilnBench_Reader_25 rfl (by decide) (by decide) (by decide) ?_
      refine n_mem (fun μ5 eμ5 => ?_)
      have h := h μ5 eμ5
      refine m_aload_n C dX7_readNumber_93 rfl ?_
      refine m_sipush C dX7_readNumber_94 (by omega) ?_
      refine f_putI C dX7_readNumber_97 fl_KilnBench_Reader_28 rfl (by decide) (by decide) (by decide) ?_
      refine n_mem (fun μ6 eμ6 => ?_)
      have h := h μ6 eμ6
      exact f_vret C R rfl dX7_readNumber_100 h
    · have h := h.2 c
      refine m_iload_n C dX7_readNumber_44 rfl ?_
      refine m_aload_n C dX7_readNumber_45 rfl ?_
      refine f_getI C dX7_readNumber_46 fl_KilnBench_Reader_31 rfl (by decide) (by decide) ?_
      refine m_isub C dX7_readNumber_49 ?_
      refine m_iconst C dX7_readNumber_50 (by unfold in32; omega) ?_
      refine m_icmp_lt (tgt := 61) C dX7_readNumber_51 (by decide) (fun c => ?_) (fun c => ?_)
      · have h := h.1 c
        refine m_aload_n C dX7_readNumber_61 rfl ?_
        refine m_bipush C dX7_readNumber_62 (by omega) ?_
        refine m_aload_n C dX7_readNumber_64 rfl ?_
        refine f_getI C dX7_readNumber_65 fl_KilnBench_Reader_34 rfl (by decide) (by decide) ?_
        refine m_imul C dX7_readNumber_68 ?_
        refine m_aload_n C dX7_readNumber_69 rfl ?_
        obtain ⟨hx, h⟩ := h
        refine f_getR (t := 1) (w := 1) C dX7_readNumber_70 fl_KilnBench_Reader_17 rfl (by decide) (by decide) (by rw [hx]; rfl) (by decide) (by decide) ?_
        refine m_iload_n C dX7_readNumber_73 rfl ?_
        obtain ⟨hb, h⟩ := h
        refine f_bald C dX7_readNumber_74 (m_arO (a := 1) (len := 1600) rfl rfl) (by decide) hb ?_
        refine m_iadd C dX7_readNumber_75 ?_
        refine m_bipush C dX7_readNumber_76 (by omega) ?_
        refine m_isub C dX7_readNumber_78 ?_
        refine f_putI C dX7_readNumber_79 fl_KilnBench_Reader_34 rfl (by decide) (by decide) (by decide) ?_
        refine n_mem (fun μ7 eμ7 => ?_)
        have h := h μ7 eμ7
        refine n_iinc (fun x8 => [some (vR 3 0), some (vI a1), some (vI x8)]) C dX7_readNumber_82 rfl (by decide) (fun _ => rfl) (fun x8 ex8 => ?_)
        have h := h x8 ex8
        refine m_goto (tgt := 24) C dX7_readNumber_85 (by decide) ?_
        exact h
      · have h := h.2 c
        refine m_aload_n C dX7_readNumber_54 rfl ?_
        refine m_iconst C dX7_readNumber_55 (by unfold in32; omega) ?_
        refine m_iload_n C dX7_readNumber_56 rfl ?_
        refine f_callVv (As := [vI 1, vI l2]) (st := []) C dX7_readNumber_57 ml_KilnBench_Reader_89 rfl (by decide) rfl rfl rfl (Nat.le_of_ble_eq_true rfl) h (fun μ9 h => ?_)
        exact f_vret C R rfl dX7_readNumber_60 h

set_option maxRecDepth 20000 in
theorem VX7_tokenOf_0 {G : m_G} {X : m_X} {d : Nat} {K : Int → m_M → Prop} (C : mC G X YX7_tokenOf (d + 1)) (R : r_i G X K) {μ : m_M} {a1 : Int}
    (h : mW G X YX7_tokenOf μ 2 [some (vR 3 0), some (vI a1), some (vI 0)] []) :
    mW G X YX7_tokenOf μ 0 [some (vR 3 0), some (vI a1), none] [] := by
  refine m_iconst C dX7_tokenOf_0 (by unfold in32; omega) ?_
  refine o_istore_n [some (vR 3 0), some (vI a1), some (vI 0)] C dX7_tokenOf_1 (by decide) rfl ?_
  exact h

set_option maxRecDepth 20000 in
theorem VX7_tokenOf_2 {G : m_G} {X : m_X} {d : Nat} {K : Int → m_M → Prop} (C : mC G X YX7_tokenOf (d + 1)) (R : r_i G X K) {μ : m_M} {a1 : Int} {l2 : Int}
    (h : ((26 ≤ l2) → K 282 μ) ∧ ((¬ 26 ≤ l2) → (0 ≤ l2 ∧ l2 < 26) ∧ ((¬ (μ 3 1 l2.toNat) = a1) → ∀ x1 : Int, x1 = w32 (l2 + 1) → mW G X YX7_tokenOf μ 2 [some (vR 3 0), some (vI a1), some (vI x1)] []) ∧ ((μ 3 1 l2.toNat = a1) → K (w32 (256 + l2)) μ))) :
    mW G X YX7_tokenOf μ 2 [some (vR 3 0), some (vI a1), some (vI l2)] [] := by
  refine m_iload_n C dX7_tokenOf_2 rfl ?_
  refine m_aload_n C dX7_tokenOf_3 rfl ?_
  refine f_getA C dX7_tokenOf_4 fl_KilnBench_Reader_11 rfl (by decide) (by decide) (by decide) (by decide) ?_
  refine f_alen C dX7_tokenOf_7 (m_arO (a := 0) (len := 26) rfl rfl) (by decide) (by decide) (by decide) ?_
  refine m_icmp_ge (tgt := 33) C dX7_tokenOf_8 (by decide) (fun c => ?_) (fun c => ?_)
  · have h := h.1 c
    refine m_sipush C dX7_tokenOf_33 (by omega) ?_
    exact f_iret C R rfl dX7_tokenOf_36 h
  · have h := h.2 c
    refine m_aload_n C dX7_tokenOf_11 rfl ?_
    refine f_getA C dX7_tokenOf_12 fl_KilnBench_Reader_11 rfl (by decide) (by decide) (by decide) (by decide) ?_
    refine m_iload_n C dX7_tokenOf_15 rfl ?_
    obtain ⟨hb, h⟩ := h
    refine f_iald C dX7_tokenOf_16 (m_arO (a := 0) (len := 26) rfl rfl) (by decide) hb ?_
    refine m_iload_n C dX7_tokenOf_17 rfl ?_
    refine m_icmp_ne (tgt := 27) C dX7_tokenOf_18 (by decide) (fun c => ?_) (fun c => ?_)
    · have h := h.1 c
      refine n_iinc (fun x1 => [some (vR 3 0), some (vI a1), some (vI x1)]) C dX7_tokenOf_27 rfl (by decide) (fun _ => rfl) (fun x1 ex1 => ?_)
      have h := h x1 ex1
      refine m_goto (tgt := 2) C dX7_tokenOf_30 (by decide) ?_
      exact h
    · have h := h.2 c
      refine m_sipush C dX7_tokenOf_21 (by omega) ?_
      refine m_iload_n C dX7_tokenOf_24 rfl ?_
      refine m_iadd C dX7_tokenOf_25 ?_
      exact f_iret C R rfl dX7_tokenOf_26 h

set_option maxRecDepth 20000 in
theorem VX7_isBlank_0 {G : m_G} {X : m_X} {d : Nat} {K : Int → m_M → Prop} (C : mC G X YX7_isBlank (d + 1)) (R : r_i G X K) {μ : m_M} {a1 : Int}
    (h : ((a1 = 10) → K 1 μ) ∧ ((¬ a1 = 10) → ((¬ a1 = 32) → K 0 μ) ∧ ((a1 = 32) → K 1 μ))) :
    mW G X YX7_isBlank μ 0 [some (vI a1)] [] := by
  refine m_iload_n C dX7_isBlank_0 rfl ?_
  refine m_bipush C dX7_isBlank_1 (by omega) ?_
  refine m_icmp_eq (tgt := 12) C dX7_isBlank_3 (by decide) (fun c => ?_) (fun c => ?_)
  · have h := h.1 c
    refine m_iconst C dX7_isBlank_12 (by unfold in32; omega) ?_
    refine m_goto (tgt := 17) C dX7_isBlank_13 (by decide) ?_
    exact f_zret C R rfl dX7_isBlank_17 (by decide) h
  · have h := h.2 c
    refine m_iload_n C dX7_isBlank_6 rfl ?_
    refine m_bipush C dX7_isBlank_7 (by omega) ?_
    refine m_icmp_ne (tgt := 16) C dX7_isBlank_9 (by decide) (fun c => ?_) (fun c => ?_)
    · have h := h.1 c
      refine m_iconst C dX7_isBlank_16 (by unfold in32; omega) ?_
      exact f_zret C R rfl dX7_isBlank_17 (by decide) h
    · have h := h.2 c
      refine m_iconst C dX7_isBlank_12 (by unfold in32; omega) ?_
      refine m_goto (tgt := 17) C dX7_isBlank_13 (by decide) ?_
      exact f_zret C R rfl dX7_isBlank_17 (by decide) h

set_option maxRecDepth 20000 in
theorem VX7_isLetter_0 {G : m_G} {X : m_X} {d : Nat} {K : Int → m_M → Prop} (C : mC G X YX7_isLetter (d + 1)) (R : r_i G X K) {μ : m_M} {a1 : Int}
    (h : ((a1 < 97) → K 0 μ) ∧ ((¬ a1 < 97) → ((122 < a1) → K 0 μ) ∧ ((¬ 122 < a1) → K 1 μ))) :
    mW G X YX7_isLetter μ 0 [some (vI a1)] [] := by
  refine m_iload_n C dX7_isLetter_0 rfl ?_
  refine m_bipush C dX7_isLetter_1 (by omega) ?_
  refine m_icmp_lt (tgt := 16) C dX7_isLetter_3 (by decide) (fun c => ?_) (fun c => ?_)
  · have h := h.1 c
    refine m_iconst C dX7_isLetter_16 (by unfold in32; omega) ?_
    exact f_zret C R rfl dX7_isLetter_17 (by decide) h
  · have h := h.2 c
    refine m_iload_n C dX7_isLetter_6 rfl ?_
    refine m_bipush C dX7_isLetter_7 (by omega) ?_
    refine m_icmp_gt (tgt := 16) C dX7_isLetter_9 (by decide) (fun c => ?_) (fun c => ?_)
    · have h := h.1 c
      refine m_iconst C dX7_isLetter_16 (by unfold in32; omega) ?_
      exact f_zret C R rfl dX7_isLetter_17 (by decide) h
    · have h := h.2 c
      refine m_iconst C dX7_isLetter_12 (by unfold in32; omega) ?_
      refine m_goto (tgt := 17) C dX7_isLetter_13 (by decide) ?_
      exact f_zret C R rfl dX7_isLetter_17 (by decide) h

set_option maxRecDepth 20000 in
theorem VX7_isDigit_0 {G : m_G} {X : m_X} {d : Nat} {K : Int → m_M → Prop} (C : mC G X YX7_isDigit (d + 1)) (R : r_i G X K) {μ : m_M} {a1 : Int}
    (h : ((a1 < 48) → K 0 μ) ∧ ((¬ a1 < 48) → ((57 < a1) → K 0 μ) ∧ ((¬ 57 < a1) → K 1 μ))) :
    mW G X YX7_isDigit μ 0 [some (vI a1)] [] := by
  refine m_iload_n C dX7_isDigit_0 rfl ?_
  refine m_bipush C dX7_isDigit_1 (by omega) ?_
  refine m_icmp_lt (tgt := 16) C dX7_isDigit_3 (by decide) (fun c => ?_) (fun c => ?_)
  · have h := h.1 c
    refine m_iconst C dX7_isDigit_16 (by unfold in32; omega) ?_
    exact f_zret C R rfl dX7_isDigit_17 (by decide) h
  · have h := h.2 c
    refine m_iload_n C dX7_isDigit_6 rfl ?_
    refine m_bipush C dX7_isDigit_7 (by omega) ?_
    refine m_icmp_gt (tgt := 16) C dX7_isDigit_9 (by decide) (fun c => ?_) (fun c => ?_)
    · have h := h.1 c
      refine m_iconst C dX7_isDigit_16 (by unfold in32; omega) ?_
      exact f_zret C R rfl dX7_isDigit_17 (by decide) h
    · have h := h.2 c
      refine m_iconst C dX7_isDigit_12 (by unfold in32; omega) ?_
      refine m_goto (tgt := 17) C dX7_isDigit_13 (by decide) ?_
      exact f_zret C R rfl dX7_isDigit_17 (by decide) h

