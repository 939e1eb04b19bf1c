set_option maxRecDepth 20000 in
theorem VX9_isWord_0 {G : m_G} {X : m_X} {d : Nat} {K : Int → m_M → Prop} (C : mC G X YX9_isWord (d + 1)) (R : r_i G X K) {μ : m_M} {a1 : Int}
    (h : ((a1 < 256) → K 0 μ) ∧ ((¬ a1 < 256) → ((282 < a1) → K 0 μ) ∧ ((¬ 282 < a1) → K 1 μ))) :
    mW G X YX9_isWord μ 0 [some (vI a1)] [] := by
  refine m_iload_n C dX9_isWord_0 rfl ?_
  refine m_sipush C dX9_isWord_1 (by omega) ?_
  refine m_icmp_lt (tgt := 18) C dX9_isWord_4 (by decide) (fun c => ?_) (fun c => ?_)
  · have h := h.1 c
    refine m_iconst C dX9_isWord_18 (by unfold in32; omega) ?_
    exact f_zret C R rfl dX9_isWord_19 (by decide) h
  · have h := h.2 c
    refine m_iload_n C dX9_isWord_7 rfl ?_
    refine m_sipush C dX9_isWord_8 (by omega) ?_
    refine m_icmp_gt (tgt := 18) C dX9_isWord_11 (by decide) (fun c => ?_) (fun c => ?_)
    · have h := h.1 c
      refine m_iconst C dX9_isWord_18 (by unfold in32; omega) ?_
      exact f_zret C R rfl dX9_isWord_19 (by decide) h
    · have h := h.2 c
      refine m_iconst C dX9_isWord_14 (by unfold in32; omega) ?_
      refine m_goto (tgt := 19) C dX9_isWord_15 (by decide) ?_
      exact f_zret C R rfl dX9_isWord_19 (by decide) h

set_option maxRecDepth 20000 in
theorem VX10_clear_0 {G : m_G} {X : m_X} {d : Nat} {K : m_M → Prop} (C : mC G X YX10_clear (d + 1)) (R : r_v G X K) {μ : m_M} {o : Nat} (hc_o : m_cls o = 9)
    (h : ∀ μ1 : m_M, μ1 = m_up μ o 0 3 0 → ∀ μ2 : m_M, μ2 = m_up μ1 o 0 6 0 → ∀ μ3 : m_M, μ3 = m_up μ2 o 0 7 0 → ∀ μ4 : m_M, μ4 = m_up μ3 o 0 8 0 → ∀ μ5 : m_M, μ5 = m_up μ4 o 0 9 0 → ∀ μ6 : m_M, μ6 = m_up μ5 o 0 10 0 → ∀ μ7 : m_M, μ7 = m_up μ6 o 0 12 0 → c_v G d YJ7_fill_53178 [vR o 14, vI 0] μ7 (fun μ8 => c_v G d YJ7_fill_53178 [vR o 15, vI 0] μ8 (fun μ9 => K μ9))) :
    mW G X YX10_clear μ 0 [some (vR o 0)] [] := by
  refine m_aload_n C dX10_clear_0 rfl ?_
  refine m_iconst C dX10_clear_1 (by unfold in32; omega) ?_
  refine f_putI C dX10_clear_2 fl_KilnBench_Town_21 hc_o (by decide) (by decide) (by decide) ?_
  refine n_mem (fun μ1 eμ1 => ?_)
  have h := h μ1 eμ1
  refine m_aload_n C dX10_clear_5 rfl ?_
  refine m_iconst C dX10_clear_6 (by unfold in32; omega) ?_
  refine f_putI C dX10_clear_7 fl_KilnBench_Town_31 hc_o (by decide) (by decide) (by decide) ?_
  refine n_mem (fun μ2 eμ2 => ?_)
  have h := h μ2 eμ2
  refine m_aload_n C dX10_clear_10 rfl ?_
  refine m_iconst C dX10_clear_11 (by unfold in32; omega) ?_
  refine f_putI C dX10_clear_12 fl_KilnBench_Town_34 hc_o (by decide) (by decide) (by decide) ?_
  refine n_mem (fun μ3 eμ3 => ?_)
  have h := h μ3 eμ3
  refine m_aload_n C dX10_clear_15 rfl ?_
  refine m_iconst C dX10_clear_16 (by unfold in32; omega) ?_
  refine f_putI C dX10_clear_17 fl_KilnBench_Town_37 hc_o (by decide) (by decide) (by decide) ?_
  refine n_mem (fun μ4 eμ4 => ?_)
  have h := h μ4 eμ4
  refine m_aload_n C dX10_clear_20 rfl ?_
  refine m_iconst C dX10_clear_21 (by unfold in32; omega) ?_
  refine f_putI C dX10_clear_22 fl_KilnBench_Town_40 hc_o (by decide) (by decide) (by decide) ?_
  refine n_mem (fun μ5 eμ5 => ?_)
  have h := h μ5 eμ5
  refine m_aload_n C dX10_clear_25 rfl ?_
  refine m_iconst C dX10_clear_26 (by unfold in32; omega) ?_
  refine f_putI C dX10_clear_27 fl_KilnBench_Town_43 hc_o (by decide) (by decide) (by decide) ?_
  refine n_mem (fun μ6 eμ6 => ?_)
  have h := h μ6 eμ6
  refine m_aload_n C dX10_clear_30 rfl ?_
  refine m_iconst C dX10_clear_31 (by unfold in32; omega) ?_
  refine f_putI C dX10_clear_32 fl_KilnBench_Town_49 hc_o (by decide) (by decide) (by decide) ?_
  refine n_mem (fun μ7 eμ7 => ?_)
  have h := h μ7 eμ7
  refine m_aload_n C dX10_clear_35 rfl ?_
  refine f_getA C dX10_clear_36 fl_KilnBench_Town_52 hc_o (by decide) (by decide) (by decide) (by decide) ?_
  refine m_iconst C dX10_clear_39 (by unfold in32; omega) ?_
  refine f_callSv (As := [vR o 14, vI 0]) (st := []) C dX10_clear_40 ml_KilnBench_Town_58 rfl rfl (Nat.le_of_ble_eq_true rfl) h (fun μ8 h => ?_)
  refine m_aload_n C dX10_clear_43 rfl ?_
  refine f_getA C dX10_clear_44 fl_KilnBench_Town_55 hc_o (by decide) (by decide) (by decide) (by decide) ?_
  refine m_iconst C dX10_clear_47 (by unfold in32; omega) ?_
  refine f_callSv (As := [vR o 15, vI 0]) (st := []) C dX10_clear_48 ml_KilnBench_Town_58 rfl rfl (Nat.le_of_ble_eq_true rfl) h (fun μ9 h => ?_)
  exact f_vret C R rfl dX10_clear_51 h

set_option maxRecDepth 20000 in
theorem VX10_knows_0 {G : m_G} {X : m_X} {d : Nat} {K : Int → m_M → Prop} (C : mC G X YX10_knows (d + 1)) (R : r_i G X K) {μ : m_M} {o : Nat} {a1 : Int} (hc_o : m_cls o = 9)
    (h : mW G X YX10_knows μ 2 [some (vR o 0), some (vI a1), some (vI 0)] []) :
    mW G X YX10_knows μ 0 [some (vR o 0), some (vI a1), none] [] := by
  refine m_iconst C dX10_knows_0 (by unfold in32; omega) ?_
  refine o_istore_n [some (vR o 0), some (vI a1), some (vI 0)] C dX10_knows_1 (by decide) rfl ?_
  exact h

set_option maxRecDepth 20000 in
theorem VX10_knows_2 {G : m_G} {X : m_X} {d : Nat} {K : Int → m_M → Prop} (C : mC G X YX10_knows (d + 1)) (R : r_i G X K) {μ : m_M} {o : Nat} {a1 : Int} {l2 : Int} (hc_o : m_cls o = 9)
    (h : ((μ o 0 3 ≤ l2) → mW G X YX10_knows μ 30 [some (vR o 0), some (vI a1), some (vI 0)] []) ∧ ((¬ μ o 0 3 ≤ l2) → (0 ≤ l2 ∧ l2 < 8) ∧ ((¬ (μ o 1 l2.toNat) = a1) → ∀ x2 : Int, x2 = w32 (l2 + 1) → mW G X YX10_knows μ 2 [some (vR o 0), some (vI a1), some (vI x2)] []) ∧ ((μ o 1 l2.toNat = a1) → K 1 μ))) :
    mW G X YX10_knows μ 2 [some (vR o 0), some (vI a1), some (vI l2)] [] := by
  refine m_iload_n C dX10_knows_2 rfl ?_
  refine m_aload_n C dX10_knows_3 rfl ?_
  refine f_getI C dX10_knows_4 fl_KilnBench_Town_21 hc_o (by decide) (by decide) ?_
  refine m_icmp_ge (tgt := 28) C dX10_knows_7 (by decide) (fun c => ?_) (fun c => ?_)
  · have h := h.1 c
    refine m_iconst C dX10_knows_28 (by unfold in32; omega) ?_
    refine o_istore_n [some (vR o 0), some (vI a1), some (vI 0)] C dX10_knows_29 (by decide) rfl ?_
    exact h
  · have h := h.2 c
    refine m_aload_n C dX10_knows_10 rfl ?_
    refine f_getA C dX10_knows_11 fl_KilnBench_Town_9 hc_o (by decide) (by decide) (by decide) (by decide) ?_
    refine m_iload_n C dX10_knows_14 rfl ?_
    obtain ⟨hb, h⟩ := h
    refine f_iald C dX10_knows_15 (m_arO (a := 0) (len := 8) hc_o rfl) (by decide) hb ?_
    refine m_iload_n C dX10_knows_16 rfl ?_
    refine m_icmp_ne (tgt := 22) C dX10_knows_17 (by decide) (fun c => ?_) (fun c => ?_)
    · have h := h.1 c
      refine n_iinc (fun x2 => [some (vR o 0), some (vI a1), some (vI x2)]) C dX10_knows_22 rfl (by decide) (fun _ => rfl) (fun x2 ex2 => ?_)
      have h := h x2 ex2
      refine m_goto (tgt := 2) C dX10_knows_25 (by decide) ?_
      exact h
    · have h := h.2 c
      refine m_iconst C dX10_knows_20 (by unfold in32; omega) ?_
      exact f_zret C R rfl dX10_knows_21 (by decide) h

set_option maxRecDepth 20000 in
theorem VX10_knows_30 {G : m_G} {X : m_X} {d : Nat} {K : Int → m_M → Prop} (C : mC G X YX10_knows (d + 1)) (R : r_i G X K) {μ : m_M} {o : Nat} {a1 : Int} {l2 : Int} (hc_o : m_cls o = 9)
    (h : ((μ o 0 6 ≤ l2) → K 0 μ) ∧ ((¬ μ o 0 6 ≤ l2) → (0 ≤ l2 ∧ l2 < 3) ∧ ((¬ (μ o 5 l2.toNat) = a1) → ∀ x1 : Int, x1 = w32 (l2 + 1) → mW G X YX10_knows μ 30 [some (vR o 0), some (vI a1), some (vI x1)] []) ∧ ((μ o 5 l2.toNat = a1) → K 1 μ))) :
    mW G X YX10_knows μ 30 [some (vR o 0), some (vI a1), some (vI l2)] [] := by
  refine m_iload_n C dX10_knows_30 rfl ?_
  refine m_aload_n C dX10_knows_31 rfl ?_
  refine f_getI C dX10_knows_32 fl_KilnBench_Town_31 hc_o (by decide) (by decide) ?_
  refine m_icmp_ge (tgt := 56) C dX10_knows_35 (by decide) (fun c => ?_) (fun c => ?_)
  · have h := h.1 c
    refine m_iconst C dX10_knows_56 (by unfold in32; omega) ?_
    exact f_zret C R rfl dX10_knows_57 (by decide) h
  · have h := h.2 c
    refine m_aload_n C dX10_knows_38 rfl ?_
    refine f_getA C dX10_knows_39 fl_KilnBench_Town_25 hc_o (by decide) (by decide) (by decide) (by decide) ?_
    refine m_iload_n C dX10_knows_42 rfl ?_
    obtain ⟨hb, h⟩ := h
    refine f_iald C dX10_knows_43 (m_arO (a := 0) (len := 3) hc_o rfl) (by decide) hb ?_
    refine m_iload_n C dX10_knows_44 rfl ?_
    refine m_icmp_ne (tgt := 50) C dX10_knows_45 (by decide) (fun c => ?_) (fun c => ?_)
    · have h := h.1 c
      refine n_iinc (fun x1 => [some (vR o 0), some (vI a1), some (vI x1)]) C dX10_knows_50 rfl (by decide) (fun _ => rfl) (fun x1 ex1 => ?_)
      have h := h x1 ex1
      refine m_goto (tgt := 30) C dX10_knows_53 (by decide) ?_
      exact h
    · have h := h.2 c
      refine m_iconst C dX10_knows_48 (by unfold in32; omega) ?_
      exact f_zret C R rfl dX10_knows_49 (by decide) h

set_option maxRecDepth 20000 in
theorem VX10_hasNoMoreOf_0 {G : m_G} {X : m_X} {d : Nat} {K : Int → m_M → Prop} (C : mC G X YX10_hasNoMoreOf (d + 1)) (R : r_i G X K) {μ : m_M} {o : Nat} {a1 : Int} (hc_o : m_cls o = 9)
    (h : ((a1 = 256) → ((μ o 0 3 < 8) → K 0 μ) ∧ ((¬ μ o 0 3 < 8) → K 1 μ)) ∧ ((a1 = 259) → ((μ o 0 6 < 3) → K 0 μ) ∧ ((¬ μ o 0 6 < 3) → K 1 μ)) ∧ ((¬ a1 = 256 ∧ ¬ a1 = 259) → c_i G d YX10_hasFormula [vR o 0, vI a1] μ (fun r2 μ1 => (r2 = 0 ∨ r2 = 1) ∧ K r2 μ1))) :
    mW G X YX10_hasNoMoreOf μ 0 [some (vR o 0), some (vI a1)] [] := by
  refine m_iload_n C dX10_hasNoMoreOf_0 rfl ?_
  by_cases hx0 : a1 = 256
  · have h := h.1 hx0
    refine m_lsw (tgt := 28) (off := 27) C dX10_hasNoMoreOf_1 (by decide) (by rw [hx0]; decide) (by decide) ?_
    refine m_aload_n C dX10_hasNoMoreOf_28 rfl ?_
    refine f_getI C dX10_hasNoMoreOf_29 fl_KilnBench_Town_21 hc_o (by decide) (by decide) ?_
    refine m_bipush C dX10_hasNoMoreOf_32 (by omega) ?_
    refine m_icmp_lt (tgt := 41) C dX10_hasNoMoreOf_34 (by decide) (fun c => ?_) (fun c => ?_)
    · have h := h.1 c
      refine m_iconst C dX10_hasNoMoreOf_41 (by unfold in32; omega) ?_
      exact f_zret C R rfl dX10_hasNoMoreOf_42 (by decide) h
    · have h := h.2 c
      refine m_iconst C dX10_hasNoMoreOf_37 (by unfold in32; omega) ?_
      refine m_goto (tgt := 42) C dX10_hasNoMoreOf_38 (by decide) ?_
      exact f_zret C R rfl dX10_hasNoMoreOf_42 (by decide) h
  by_cases hx1 : a1 = 259
  · have h := h.2.1 hx1
    refine m_lsw (tgt := 43) (off := 42) C dX10_hasNoMoreOf_1 (by decide) (by rw [hx1]; decide) (by decide) ?_
    refine m_aload_n C dX10_hasNoMoreOf_43 rfl ?_
    refine f_getI C dX10_hasNoMoreOf_44 fl_KilnBench_Town_31 hc_o (by decide) (by decide) ?_
    refine m_iconst C dX10_hasNoMoreOf_47 (by unfold in32; omega) ?_
    refine m_icmp_lt (tgt := 55) C dX10_hasNoMoreOf_48 (by decide) (fun c => ?_) (fun c => ?_)
    · have h := h.1 c
      refine m_iconst C dX10_hasNoMoreOf_55 (by unfold in32; omega) ?_
      exact f_zret C R rfl dX10_hasNoMoreOf_56 (by decide) h
    · have h := h.2 c
      refine m_iconst C dX10_hasNoMoreOf_51 (by unfold in32; omega) ?_
      refine m_goto (tgt := 56) C dX10_hasNoMoreOf_52 (by decide) ?_
      exact f_zret C R rfl dX10_hasNoMoreOf_56 (by decide) h
  have h := h.2.2 ⟨hx0, hx1⟩
  refine m_lsw (tgt := 57) (off := 56) C dX10_hasNoMoreOf_1 (by decide) (by simp only [Op.lookupswitch.offset]; rw [if_neg (fun e => hx0 e.symm), if_neg (fun e => hx1 e.symm)]) (by decide) ?_
  refine m_aload_n C dX10_hasNoMoreOf_57 rfl ?_
  refine m_iload_n C dX10_hasNoMoreOf_58 rfl ?_
  refine f_callVi (As := [vI a1]) (st := []) C dX10_hasNoMoreOf_59 ml_KilnBench_Town_64 hc_o (by decide) rfl rfl rfl (Nat.le_of_ble_eq_true rfl) h (fun r2 μ1 h => ?_)
  exact f_zret C R rfl dX10_hasNoMoreOf_62 h.1 h.2

set_option maxRecDepth 20000 in
theorem VX10_addChild_0 {G : m_G} {X : m_X} {d : Nat} {K : m_M → Prop} (C : mC G X YX10_addChild (d + 1)) (R : r_v G X K) {μ : m_M} {o : Nat} {a1 : Int} {a2 : Int} {a3 : Int} (hc_o : m_cls o = 9)
    (h : ((8 ≤ μ o 0 3) → K μ) ∧ ((¬ 8 ≤ μ o 0 3) → (0 ≤ μ o 0 3 ∧ μ o 0 3 < 8) ∧ ∀ μ1 : m_M, μ1 = m_up μ o 1 (μ o 0 3).toNat a1 → (0 ≤ μ1 o 0 3 ∧ μ1 o 0 3 < 8) ∧ ∀ μ2 : m_M, μ2 = m_up μ1 o 2 (μ1 o 0 3).toNat a2 → (0 ≤ μ2 o 0 3 ∧ μ2 o 0 3 < 8) ∧ ∀ μ3 : m_M, μ3 = m_up μ2 o 3 (μ2 o 0 3).toNat a3 → ∀ μ4 : m_M, μ4 = m_up μ3 o 0 3 (w32 ((μ3 o 0 3) + 1)) → K μ4)) :
    mW G X YX10_addChild μ 0 [some (vR o 0), some (vI a1), some (vI a2), some (vI a3)] [] := by
  refine m_aload_n C dX10_addChild_0 rfl ?_
  refine f_getI C dX10_addChild_1 fl_KilnBench_Town_21 hc_o (by decide) (by decide) ?_
  refine m_bipush C dX10_addChild_4 (by omega) ?_
  refine m_icmp_ge (tgt := 49) C dX10_addChild_6 (by decide) (fun c => ?_) (fun c => ?_)
  · have h := h.1 c
    exact f_vret C R rfl dX10_addChild_49 h
  · have h := h.2 c
    refine m_aload_n C dX10_addChild_9 rfl ?_
    refine f_getA C dX10_addChild_10 fl_KilnBench_Town_9 hc_o (by decide) (by decide) (by decide) (by decide) ?_
    refine m_aload_n C dX10_addChild_13 rfl ?_
    refine f_getI C dX10_addChild_14 fl_KilnBench_Town_21 hc_o (by decide) (by decide) ?_
    refine m_iload_n C dX10_addChild_17 rfl ?_
    obtain ⟨hb, h⟩ := h
    refine f_iast C dX10_addChild_18 (m_arO (a := 0) (len := 8) hc_o rfl) (by decide) hb ?_
    refine n_mem (fun μ1 eμ1 => ?_)
    have h := h μ1 eμ1
    refine m_aload_n C dX10_addChild_19 rfl ?_
    refine f_getA C dX10_addChild_20 fl_KilnBench_Town_15 hc_o (by decide) (by decide) (by decide) (by decide) ?_
    refine m_aload_n C dX10_addChild_23 rfl ?_
    refine f_getI C dX10_addChild_24 fl_KilnBench_Town_21 hc_o (by decide) (by decide) ?_
    refine m_iload_n C dX10_addChild_27 rfl ?_
    obtain ⟨hb, h⟩ := h
    refine f_iast C dX10_addChild_28 (m_arO (a := 0) (len := 8) hc_o rfl) (by decide) hb ?_
    refine n_mem (fun μ2 eμ2 => ?_)
    have h := h μ2 eμ2
    refine m_aload_n C dX10_addChild_29 rfl ?_
    refine f_getA C dX10_addChild_30 fl_KilnBench_Town_18 hc_o (by decide) (by decide) (by decide) (by decide) ?_
    refine m_aload_n C dX10_addChild_33 rfl ?_
    refine f_getI C dX10_addChild_34 fl_KilnBench_Town_21 hc_o (by decide) (by decide) ?_
    refine m_iload_n C dX10_addChild_37 rfl ?_
    obtain ⟨hb, h⟩ := h
    refine f_iast C dX10_addChild_38 (m_arO (a := 0) (len := 8) hc_o rfl) (by decide) hb ?_
    refine n_mem (fun μ3 eμ3 => ?_)
    have h := h μ3 eμ3
    refine m_aload_n C dX10_addChild_39 rfl ?_
    refine m_dup C dX10_addChild_40 rfl ?_
    refine f_getI C dX10_addChild_41 fl_KilnBench_Town_21 hc_o (by decide) (by decide) ?_
    refine m_iconst C dX10_addChild_44 (by unfold in32; omega) ?_
    refine m_iadd C dX10_addChild_45 ?_
    refine f_putI C dX10_addChild_46 fl_KilnBench_Town_21 hc_o (by decide) (by decide) (by decide) ?_
    refine n_mem (fun μ4 eμ4 => ?_)
    have h := h μ4 eμ4
    exact f_vret C R rfl dX10_addChild_49 h

set_option maxRecDepth 20000 in
theorem VX10_addKiln_0 {G : m_G} {X : m_X} {d : Nat} {K : m_M → Prop} (C : mC G X YX10_addKiln (d + 1)) (R : r_v G X K) {μ : m_M} {o : Nat} {a1 : Int} {a2 : Int} (hc_o : m_cls o = 9)
    (h : ((3 ≤ μ o 0 6) → K μ) ∧ ((¬ 3 ≤ μ o 0 6) → (0 ≤ μ o 0 6 ∧ μ o 0 6 < 3) ∧ ∀ μ1 : m_M, μ1 = m_up μ o 5 (μ o 0 6).toNat a1 → (0 ≤ μ1 o 0 6 ∧ μ1 o 0 6 < 3) ∧ ∀ μ2 : m_M, μ2 = m_up μ1 o 6 (μ1 o 0 6).toNat a2 → ∀ μ3 : m_M, μ3 = m_up μ2 o 0 6 (w32 ((μ2 o 0 6) + 1)) → K μ3)) :
    mW G X YX10_addKiln μ 0 [some (vR o 0), some (vI a1), some (vI a2)] [] := by
  refine m_aload_n C dX10_addKiln_0 rfl ?_
  refine f_getI C dX10_addKiln_1 fl_KilnBench_Town_31 hc_o (by decide) (by decide) ?_
  refine m_iconst C dX10_addKiln_4 (by unfold in32; omega) ?_
  refine m_icmp_ge (tgt := 38) C dX10_addKiln_5 (by decide) (fun c => ?_) (fun c => ?_)
  · have h := h.1 c
    exact f_vret C R rfl dX10_addKiln_38 h
  · have h := h.2 c
    refine m_aload_n C dX10_addKiln_8 rfl ?_
    refine f_getA C dX10_addKiln_9 fl_KilnBench_Town_25 hc_o (by decide) (by decide) (by decide) (by decide) ?_
    refine m_aload_n C dX10_addKiln_12 rfl ?_
    refine f_getI C dX10_addKiln_13 fl_KilnBench_Town_31 hc_o (by decide) (by decide) ?_
    refine m_iload_n C dX10_addKiln_16 rfl ?_
    obtain ⟨hb, h⟩ := h
    refine f_iast C dX10_addKiln_17 (m_arO (a := 0) (len := 3) hc_o rfl) (by decide) hb ?_
    refine n_mem (fun μ1 eμ1 => ?_)
    have h := h μ1 eμ1
    refine m_aload_n C dX10_addKiln_18 rfl ?_
    refine f_getA C dX10_addKiln_19 fl_KilnBench_Town_28 hc_o (by decide) (by decide) (by decide) (by decide) ?_
    refine m_aload_n C dX10_addKiln_22 rfl ?_
    refine f_getI C dX10_addKiln_23 fl_KilnBench_Town_31 hc_o (by decide) (by decide) ?_
    refine m_iload_n C dX10_addKiln_26 rfl ?_
    obtain ⟨hb, h⟩ := h
    refine f_iast C dX10_addKiln_27 (m_arO (a := 0) (len := 3) hc_o rfl) (by decide) hb ?_
    refine n_mem (fun μ2 eμ2 => ?_)
    have h := h μ2 eμ2
    refine m_aload_n C dX10_addKiln_28 rfl ?_
    refine m_dup C dX10_addKiln_29 rfl ?_
    refine f_getI C dX10_addKiln_30 fl_KilnBench_Town_31 hc_o (by decide) (by decide) ?_
    refine m_iconst C dX10_addKiln_33 (by unfold in32; omega) ?_
    refine m_iadd C dX10_addKiln_34 ?_
    refine f_putI C dX10_addKiln_35 fl_KilnBench_Town_31 hc_o (by decide) (by decide) (by decide) ?_
    refine n_mem (fun μ3 eμ3 => ?_)
    have h := h μ3 eμ3
    exact f_vret C R rfl dX10_addKiln_38 h

set_option maxRecDepth 20000 in
theorem VX10_isFormula_0 {G : m_G} {X : m_X} {d : Nat} {K : Int → m_M → Prop} (C : mC G X YX10_isFormula (d + 1)) (R : r_i G X K) {μ : m_M} {a1 : Int}
    (h : ((a1 < 261) → K 0 μ) ∧ ((¬ a1 < 261) → ((264 < a1) → K 0 μ) ∧ ((¬ 264 < a1) → K 1 μ))) :
    mW G X YX10_isFormula μ 0 [some (vI a1)] [] := by
  refine m_iload_n C dX10_isFormula_0 rfl ?_
  refine m_sipush C dX10_isFormula_1 (by omega) ?_
  refine m_icmp_lt (tgt := 18) C dX10_isFormula_4 (by decide) (fun c => ?_) (fun c => ?_)
  · have h := h.1 c
    refine m_iconst C dX10_isFormula_18 (by unfold in32; omega) ?_
    exact f_zret C R rfl dX10_isFormula_19 (by decide) h
  · have h := h.2 c
    refine m_iload_n C dX10_isFormula_7 rfl ?_
    refine m_sipush C dX10_isFormula_8 (by omega) ?_
    refine m_icmp_gt (tgt := 18) C dX10_isFormula_11 (by decide) (fun c => ?_) (fun c => ?_)
    · have h := h.1 c
      refine m_iconst C dX10_isFormula_18 (by unfold in32; omega) ?_
      exact f_zret C R rfl dX10_isFormula_19 (by decide) h
    · have h := h.2 c
      refine m_iconst C dX10_isFormula_14 (by unfold in32; omega) ?_
      refine m_goto (tgt := 19) C dX10_isFormula_15 (by decide) ?_
      exact f_zret C R rfl dX10_isFormula_19 (by decide) h

set_option maxRecDepth 20000 in
theorem VX10_hasFormula_0 {G : m_G} {X : m_X} {d : Nat} {K : Int → m_M → Prop} (C : mC G X YX10_hasFormula (d + 1)) (R : r_i G X K) {μ : m_M} {o : Nat} {a1 : Int} (hc_o : m_cls o = 9)
    (h : c_i G d YX10_isFormula [vI a1] μ (fun r2 μ1 => ((r2 = 0) → K 0 μ1) ∧ ((¬ r2 = 0) → (0 ≤ w32 (a1 - 261) ∧ w32 (a1 - 261) < 4) ∧ (0 ≤ w32 (a1 - 261) ∧ w32 (a1 - 261) < 4) ∧ ((μ1 o 15 (w32 (a1 - 261)).toNat ≤ μ1 o 14 (w32 (a1 - 261)).toNat) → K 0 μ1) ∧ ((¬ μ1 o 15 (w32 (a1 - 261)).toNat ≤ μ1 o 14 (w32 (a1 - 261)).toNat) → K 1 μ1)))) :
    mW G X YX10_hasFormula μ 0 [some (vR o 0), some (vI a1)] [] := by
  refine m_iload_n C dX10_hasFormula_0 rfl ?_
  refine f_callSi (As := [vI a1]) (st := []) C dX10_hasFormula_1 ml_KilnBench_Town_70 rfl rfl (Nat.le_of_ble_eq_true rfl) h (fun r2 μ1 h => ?_)
  refine m_if_eq (tgt := 34) C dX10_hasFormula_4 (by decide) (fun c => ?_) (fun c => ?_)
  · have h := h.1 c
    refine m_iconst C dX10_hasFormula_34 (by unfold in32; omega) ?_
    exact f_zret C R rfl dX10_hasFormula_35 (by decide) h
  · have h := h.2 c
    refine m_aload_n C dX10_hasFormula_7 rfl ?_
    refine f_getA C dX10_hasFormula_8 fl_KilnBench_Town_55 hc_o (by decide) (by decide) (by decide) (by decide) ?_
    refine m_iload_n C dX10_hasFormula_11 rfl ?_
    refine m_sipush C dX10_hasFormula_12 (by omega) ?_
    refine m_isub C dX10_hasFormula_15 ?_
    obtain ⟨hb, h⟩ := h
    refine f_iald C dX10_hasFormula_16 (m_arO (a := 0) (len := 4) hc_o rfl) (by decide) hb ?_
    refine m_aload_n C dX10_hasFormula_17 rfl ?_
    refine f_getA C dX10_hasFormula_18 fl_KilnBench_Town_52 hc_o (by decide) (by decide) (by decide) (by decide) ?_
    refine m_iload_n C dX10_hasFormula_21 rfl ?_
    refine m_sipush C dX10_hasFormula_22 (by omega) ?_
    refine m_isub C dX10_hasFormula_25 ?_
    obtain ⟨hb, h⟩ := h
    refine f_iald C dX10_hasFormula_26 (m_arO (a := 0) (len := 4) hc_o rfl) (by decide) hb ?_
    refine m_icmp_le (tgt := 34) C dX10_hasFormula_27 (by decide) (fun c => ?_) (fun c => ?_)
    · have h := h.1 c
      refine m_iconst C dX10_hasFormula_34 (by unfold in32; omega) ?_
      exact f_zret C R rfl dX10_hasFormula_35 (by decide) h
    · have h := h.2 c
      refine m_iconst C dX10_hasFormula_30 (by unfold in32; omega) ?_
      refine m_goto (tgt := 35) C dX10_hasFormula_31 (by decide) ?_
      exact f_zret C R rfl dX10_hasFormula_35 (by decide) h

set_option maxRecDepth 20000 in
theorem VX10_beginFormula_0 {G : m_G} {X : m_X} {d : Nat} {K : m_M → Prop} (C : mC G X YX10_beginFormula (d + 1)) (R : r_v G X K) {μ : m_M} {o : Nat} {a1 : Int} (hc_o : m_cls o = 9)
    (h : c_i G d YX10_isFormula [vI a1] μ (fun r2 μ1 => ((r2 = 0) → K μ1) ∧ ((¬ r2 = 0) → (0 ≤ w32 (a1 - 261) ∧ w32 (a1 - 261) < 4) ∧ ∀ μ3 : m_M, μ3 = m_up μ1 o 14 (w32 (a1 - 261)).toNat (μ1 o 0 12) → K μ3))) :
    mW G X YX10_beginFormula μ 0 [some (vR o 0), some (vI a1)] [] := by
  refine m_iload_n C dX10_beginFormula_0 rfl ?_
  refine f_callSi (As := [vI a1]) (st := []) C dX10_beginFormula_1 ml_KilnBench_Town_70 rfl rfl (Nat.le_of_ble_eq_true rfl) h (fun r2 μ1 h => ?_)
  refine m_if_eq (tgt := 21) C dX10_beginFormula_4 (by decide) (fun c => ?_) (fun c => ?_)
  · have h := h.1 c
    exact f_vret C R rfl dX10_beginFormula_21 h
  · have h := h.2 c
    refine m_aload_n C dX10_beginFormula_7 rfl ?_
    refine f_getA C dX10_beginFormula_8 fl_KilnBench_Town_52 hc_o (by decide) (by decide) (by decide) (by decide) ?_
    refine m_iload_n C dX10_beginFormula_11 rfl ?_
    refine m_sipush C dX10_beginFormula_12 (by omega) ?_
    refine m_isub C dX10_beginFormula_15 ?_
    refine m_aload_n C dX10_beginFormula_16 rfl ?_
    refine f_getI C dX10_beginFormula_17 fl_KilnBench_Town_49 hc_o (by decide) (by decide) ?_
    obtain ⟨hb, h⟩ := h
    refine f_iast C dX10_beginFormula_20 (m_arO (a := 0) (len := 4) hc_o rfl) (by decide) hb ?_
    refine n_mem (fun μ3 eμ3 => ?_)
    have h := h μ3 eμ3
    exact f_vret C R rfl dX10_beginFormula_21 h

set_option maxRecDepth 20000 in
theorem VX10_endFormula_0 {G : m_G} {X : m_X} {d : Nat} {K : m_M → Prop} (C : mC G X YX10_endFormula (d + 1)) (R : r_v G X K) {μ : m_M} {o : Nat} {a1 : Int} (hc_o : m_cls o = 9)
    (h : c_i G d YX10_isFormula [vI a1] μ (fun r2 μ1 => ((r2 = 0) → K μ1) ∧ ((¬ r2 = 0) → (0 ≤ w32 (a1 - 261) ∧ w32 (a1 - 261) < 4) ∧ ∀ μ3 : m_M, μ3 = m_up μ1 o 15 (w32 (a1 - 261)).toNat (μ1 o 0 12) → K μ3))) :
    mW G X YX10_endFormula μ 0 [some (vR o 0), some (vI a1)] [] := by
  refine m_iload_n C dX10_endFormula_0 rfl ?_
  refine f_callSi (As := [vI a1]) (st := []) C dX10_endFormula_1 ml_KilnBench_Town_70 rfl rfl (Nat.le_of_ble_eq_true rfl) h (fun r2 μ1 h => ?_)
  refine m_if_eq (tgt := 21) C dX10_endFormula_4 (by decide) (fun c => ?_) (fun c => ?_)
  · have h := h.1 c
    exact f_vret C R rfl dX10_endFormula_21 h
  · have h := h.2 c
    refine m_aload_n C dX10_endFormula_7 rfl ?_
    refine f_getA C dX10_endFormula_8 fl_KilnBench_Town_55 hc_o (by decide) (by decide) (by decide) (by decide) ?_
    refine m_iload_n C dX10_endFormula_11 rfl ?_
    refine m_sipush C dX10_endFormula_12 (by omega) ?_
    refine m_isub C dX10_endFormula_15 ?_
    refine m_aload_n C dX10_endFormula_16 rfl ?_
    refine f_getI C dX10_endFormula_17 fl_KilnBench_Town_49 hc_o (by decide) (by decide) ?_
    obtain ⟨hb, h⟩ := h
    refine f_iast C dX10_endFormula_20 (m_arO (a := 0) (len := 4) hc_o rfl) (by decide) hb ?_
    refine n_mem (fun μ3 eμ3 => ?_)
    have h := h μ3 eμ3
    exact f_vret C R rfl dX10_endFormula_21 h

set_option maxRecDepth 20000 in
theorem VX10_addCode_0 {G : m_G} {X : m_X} {d : Nat} {K : m_M → Prop} (C : mC G X YX10_addCode (d + 1)) (R : r_v G X K) {μ : m_M} {o : Nat} {a1 : Int} (hc_o : m_cls o = 9)
    (h : ((1600 ≤ μ o 0 12) → K μ) ∧ ((¬ 1600 ≤ μ o 0 12) → (0 ≤ μ o 0 12 ∧ μ o 0 12 < 1600) ∧ ∀ μ1 : m_M, μ1 = m_up μ o 12 (μ o 0 12).toNat a1 → ∀ μ2 : m_M, μ2 = m_up μ1 o 0 12 (w32 ((μ1 o 0 12) + 1)) → K μ2)) :
    mW G X YX10_addCode μ 0 [some (vR o 0), some (vI a1)] [] := by
  refine m_aload_n C dX10_addCode_0 rfl ?_
  refine f_getI C dX10_addCode_1 fl_KilnBench_Town_49 hc_o (by decide) (by decide) ?_
  refine m_aload_n C dX10_addCode_4 rfl ?_
  refine f_getA C dX10_addCode_5 fl_KilnBench_Town_46 hc_o (by decide) (by decide) (by decide) (by decide) ?_
  refine f_alen C dX10_addCode_8 (m_arO (a := 0) (len := 1600) hc_o rfl) (by decide) (by decide) (by decide) ?_
  refine m_icmp_ge (tgt := 32) C dX10_addCode_9 (by decide) (fun c => ?_) (fun c => ?_)
  · have h := h.1 c
    exact f_vret C R rfl dX10_addCode_32 h
  · have h := h.2 c
    refine m_aload_n C dX10_addCode_12 rfl ?_
    refine f_getA C dX10_addCode_13 fl_KilnBench_Town_46 hc_o (by decide) (by decide) (by decide) (by decide) ?_
    refine m_aload_n C dX10_addCode_16 rfl ?_
    refine f_getI C dX10_addCode_17 fl_KilnBench_Town_49 hc_o (by decide) (by decide) ?_
    refine m_iload_n C dX10_addCode_20 rfl ?_
    obtain ⟨hb, h⟩ := h
    refine f_iast C dX10_addCode_21 (m_arO (a := 0) (len := 1600) hc_o rfl) (by decide) hb ?_
    refine n_mem (fun μ1 eμ1 => ?_)
    have h := h μ1 eμ1
    refine m_aload_n C dX10_addCode_22 rfl ?_
    refine m_dup C dX10_addCode_23 rfl ?_
    refine f_getI C dX10_addCode_24 fl_KilnBench_Town_49 hc_o (by decide) (by decide) ?_
    refine m_iconst C dX10_addCode_27 (by unfold in32; omega) ?_
    refine m_iadd C dX10_addCode_28 ?_
    refine f_putI C dX10_addCode_29 fl_KilnBench_Town_49 hc_o (by decide) (by decide) (by decide) ?_
    refine n_mem (fun μ2 eμ2 => ?_)
    have h := h μ2 eμ2
    exact f_vret C R rfl dX10_addCode_32 h

