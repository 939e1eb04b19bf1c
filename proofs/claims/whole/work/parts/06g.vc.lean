set_option maxRecDepth 20000 in
theorem VX12_is_0 {G : m_G} {X : m_X} {d : Nat} {K : Int → m_M → Prop} (C : mC G X YX12_is (d + 1)) (R : r_i G X K) {μ : m_M} {a1 : Int} {a2 : Int} {a3 : Int}
    (h : ((a1 < a2) → K 0 μ) ∧ ((¬ a1 < a2) → ((a3 < a1) → K 0 μ) ∧ ((¬ a3 < a1) → K 1 μ))) :
    mW G X YX12_is μ 0 [some (vI a1), some (vI a2), some (vI a3)] [] := by
  refine m_iload_n C dX12_is_0 rfl ?_
  refine m_iload_n C dX12_is_1 rfl ?_
  refine m_icmp_lt (tgt := 14) C dX12_is_2 (by decide) (fun c => ?_) (fun c => ?_)
  · have h := h.1 c
    refine m_iconst C dX12_is_14 (by unfold in32; omega) ?_
    exact f_zret C R rfl dX12_is_15 (by decide) h
  · have h := h.2 c
    refine m_iload_n C dX12_is_5 rfl ?_
    refine m_iload_n C dX12_is_6 rfl ?_
    refine m_icmp_gt (tgt := 14) C dX12_is_7 (by decide) (fun c => ?_) (fun c => ?_)
    · have h := h.1 c
      refine m_iconst C dX12_is_14 (by unfold in32; omega) ?_
      exact f_zret C R rfl dX12_is_15 (by decide) h
    · have h := h.2 c
      refine m_iconst C dX12_is_10 (by unfold in32; omega) ?_
      refine m_goto (tgt := 15) C dX12_is_11 (by decide) ?_
      exact f_zret C R rfl dX12_is_15 (by decide) h

set_option maxRecDepth 20000 in
theorem VX12_put_0 {G : m_G} {X : m_X} {d : Nat} {K : m_M → Prop} (C : mC G X YX12_put (d + 1)) (R : r_v G X K) {μ : m_M} {a1 : Int}
    (h : mW G X YX12_put μ 3 [some (vR 34 0), some (vI a1), some (vI 24)] []) :
    mW G X YX12_put μ 0 [some (vR 34 0), some (vI a1), none] [] := by
  refine m_bipush C dX12_put_0 (by omega) ?_
  refine o_istore_n [some (vR 34 0), some (vI a1), some (vI 24)] C dX12_put_2 (by decide) rfl ?_
  exact h

set_option maxRecDepth 20000 in
theorem VX12_put_3 {G : m_G} {X : m_X} {d : Nat} {K : m_M → Prop} (C : mC G X YX12_put (d + 1)) (R : r_v G X K) {μ : m_M} {a1 : Int} {l2 : Int}
    (h : ((l2 < 0) → K μ) ∧ ((¬ l2 < 0) → (0 ≤ μ 34 0 1 ∧ μ 34 0 1 < 1800) ∧ ∀ μ1 : m_M, μ1 = m_up μ 34 1 (μ 34 0 1).toNat (i_and (i_shr a1 l2) 255) → ∀ μ2 : m_M, μ2 = m_up μ1 34 0 1 (w32 ((μ1 34 0 1) + 1)) → ∀ x3 : Int, x3 = w32 (l2 + (-8)) → mW G X YX12_put μ2 3 [some (vR 34 0), some (vI a1), some (vI x3)] [])) :
    mW G X YX12_put μ 3 [some (vR 34 0), some (vI a1), some (vI l2)] [] := by
  refine m_iload_n C dX12_put_3 rfl ?_
  refine m_if_lt (tgt := 39) C dX12_put_4 (by decide) (fun c => ?_) (fun c => ?_)
  · have h := h.1 c
    exact f_vret C R rfl dX12_put_39 h
  · have h := h.2 c
    refine m_aload_n C dX12_put_7 rfl ?_
    refine f_getA C dX12_put_8 fl_KilnBenchModel_7 rfl (by decide) (by decide) (by decide) (by decide) ?_
    refine m_aload_n C dX12_put_11 rfl ?_
    refine f_getI C dX12_put_12 fl_KilnBenchModel_13 rfl (by decide) (by decide) ?_
    refine m_iload_n C dX12_put_15 rfl ?_
    refine m_iload_n C dX12_put_16 rfl ?_
    refine m_ishr C dX12_put_17 ?_
    refine m_sipush C dX12_put_18 (by omega) ?_
    refine m_iand C dX12_put_21 ?_
    obtain ⟨hb, h⟩ := h
    refine f_iast C dX12_put_22 (m_arO (a := 0) (len := 1800) rfl rfl) (by decide) hb ?_
    refine n_mem (fun μ1 eμ1 => ?_)
    have h := h μ1 eμ1
    refine m_aload_n C dX12_put_23 rfl ?_
    refine m_dup C dX12_put_24 rfl ?_
    refine f_getI C dX12_put_25 fl_KilnBenchModel_13 rfl (by decide) (by decide) ?_
    refine m_iconst C dX12_put_28 (by unfold in32; omega) ?_
    refine m_iadd C dX12_put_29 ?_
    refine f_putI C dX12_put_30 fl_KilnBenchModel_13 rfl (by decide) (by decide) (by decide) ?_
    refine n_mem (fun μ2 eμ2 => ?_)
    have h := h μ2 eμ2
    refine n_iinc (fun x3 => [some (vR 34 0), some (vI a1), some (vI x3)]) C dX12_put_33 rfl (by decide) (fun _ => rfl) (fun x3 ex3 => ?_)
    have h := h x3 ex3
    refine m_goto (tgt := 3) C dX12_put_36 (by decide) ?_
    exact h

set_option maxRecDepth 20000 in
theorem VX12_feed_0 {G : m_G} {X : m_X} {d : Nat} {K : Int → m_M → Prop} (C : mC G X YX12_feed (d + 1)) (R : r_i G X K) {μ : m_M} {a1 : Int} {a2 : Int} {a3 : Int} {a4 : Int} {a5 : Int}
    (h : ((w32 ((μ 34 0 1) + 20) ≤ 1600) → c_v G d YX12_put [vR 34 0, vI a1] μ (fun μ1 => c_v G d YX12_put [vR 34 0, vI a2] μ1 (fun μ2 => c_v G d YX12_put [vR 34 0, vI a3] μ2 (fun μ3 => c_v G d YX12_put [vR 34 0, vI a4] μ3 (fun μ4 => c_v G d YX12_put [vR 34 0, vI a5] μ4 (fun μ5 => K (μ5 34 0 1) μ5)))))) ∧ ((¬ w32 ((μ 34 0 1) + 20) ≤ 1600) → c_i G d YX12_refuses [vR 34 0, vI 0] μ (fun r7 μ6 => K r7 μ6))) :
    mW G X YX12_feed μ 0 [some (vR 34 0), some (vI a1), some (vI a2), some (vI a3), some (vI a4), some (vI a5)] [] := by
  refine m_aload_n C dX12_feed_0 rfl ?_
  refine f_getI C dX12_feed_1 fl_KilnBenchModel_13 rfl (by decide) (by decide) ?_
  refine m_bipush C dX12_feed_4 (by omega) ?_
  refine m_iadd C dX12_feed_6 ?_
  refine m_sipush C dX12_feed_7 (by omega) ?_
  refine m_icmp_le (tgt := 19) C dX12_feed_10 (by decide) (fun c => ?_) (fun c => ?_)
  · have h := h.1 c
    refine m_aload_n C dX12_feed_19 rfl ?_
    refine m_iload_n C dX12_feed_20 rfl ?_
    refine f_callVv (As := [vI a1]) (st := []) C dX12_feed_21 ml_KilnBenchModel_220 rfl (by decide) rfl rfl rfl (Nat.le_of_ble_eq_true rfl) h (fun μ1 h => ?_)
    refine m_aload_n C dX12_feed_24 rfl ?_
    refine m_iload_n C dX12_feed_25 rfl ?_
    refine f_callVv (As := [vI a2]) (st := []) C dX12_feed_26 ml_KilnBenchModel_220 rfl (by decide) rfl rfl rfl (Nat.le_of_ble_eq_true rfl) h (fun μ2 h => ?_)
    refine m_aload_n C dX12_feed_29 rfl ?_
    refine m_iload_n C dX12_feed_30 rfl ?_
    refine f_callVv (As := [vI a3]) (st := []) C dX12_feed_31 ml_KilnBenchModel_220 rfl (by decide) rfl rfl rfl (Nat.le_of_ble_eq_true rfl) h (fun μ3 h => ?_)
    refine m_aload_n C dX12_feed_34 rfl ?_
    refine m_iload C dX12_feed_35 rfl ?_
    refine f_callVv (As := [vI a4]) (st := []) C dX12_feed_37 ml_KilnBenchModel_220 rfl (by decide) rfl rfl rfl (Nat.le_of_ble_eq_true rfl) h (fun μ4 h => ?_)
    refine m_aload_n C dX12_feed_40 rfl ?_
    refine m_iload C dX12_feed_41 rfl ?_
    refine f_callVv (As := [vI a5]) (st := []) C dX12_feed_43 ml_KilnBenchModel_220 rfl (by decide) rfl rfl rfl (Nat.le_of_ble_eq_true rfl) h (fun μ5 h => ?_)
    refine m_aload_n C dX12_feed_46 rfl ?_
    refine f_getI C dX12_feed_47 fl_KilnBenchModel_13 rfl (by decide) (by decide) ?_
    exact f_iret C R rfl dX12_feed_50 h
  · have h := h.2 c
    refine m_aload_n C dX12_feed_13 rfl ?_
    refine m_iconst C dX12_feed_14 (by unfold in32; omega) ?_
    refine f_callVi (As := [vI 0]) (st := []) C dX12_feed_15 ml_KilnBenchModel_216 rfl (by decide) rfl rfl rfl (Nat.le_of_ble_eq_true rfl) h (fun r7 μ6 h => ?_)
    exact f_iret C R rfl dX12_feed_18 h

set_option maxRecDepth 20000 in
theorem VX12_end_0 {G : m_G} {X : m_X} {d : Nat} {K : Int → m_M → Prop} (C : mC G X YX12_end (d + 1)) (R : r_i G X K) {μ : m_M} {a1 : Int}
    (h : ((a1 < 0) → c_i G d YX12_refuses [vR 34 0, vI 0] μ (fun r2 μ1 => ((r2 < 0) → K 0 μ1) ∧ ((¬ r2 < 0) → K 1 μ1))) ∧ ((¬ a1 < 0) → ((a1 ≤ μ 34 0 1) → ∀ μ3 : m_M, μ3 = m_up μ 34 0 1 a1 → K 1 μ3) ∧ ((¬ a1 ≤ μ 34 0 1) → c_i G d YX12_refuses [vR 34 0, vI 0] μ (fun r5 μ4 => ((r5 < 0) → K 0 μ4) ∧ ((¬ r5 < 0) → K 1 μ4))))) :
    mW G X YX12_end μ 0 [some (vR 34 0), some (vI a1)] [] := by
  refine m_iload_n C dX12_end_0 rfl ?_
  refine m_if_lt (tgt := 12) C dX12_end_1 (by decide) (fun c => ?_) (fun c => ?_)
  · have h := h.1 c
    refine m_aload_n C dX12_end_12 rfl ?_
    refine m_iconst C dX12_end_13 (by unfold in32; omega) ?_
    refine f_callVi (As := [vI 0]) (st := []) C dX12_end_14 ml_KilnBenchModel_216 rfl (by decide) rfl rfl rfl (Nat.le_of_ble_eq_true rfl) h (fun r2 μ1 h => ?_)
    refine m_if_lt (tgt := 24) C dX12_end_17 (by decide) (fun c => ?_) (fun c => ?_)
    · have h := h.1 c
      refine m_iconst C dX12_end_24 (by unfold in32; omega) ?_
      exact f_zret C R rfl dX12_end_25 (by decide) h
    · have h := h.2 c
      refine m_iconst C dX12_end_20 (by unfold in32; omega) ?_
      refine m_goto (tgt := 25) C dX12_end_21 (by decide) ?_
      exact f_zret C R rfl dX12_end_25 (by decide) h
  · have h := h.2 c
    refine m_iload_n C dX12_end_4 rfl ?_
    refine m_aload_n C dX12_end_5 rfl ?_
    refine f_getI C dX12_end_6 fl_KilnBenchModel_13 rfl (by decide) (by decide) ?_
    refine m_icmp_le (tgt := 26) C dX12_end_9 (by decide) (fun c => ?_) (fun c => ?_)
    · have h := h.1 c
      refine m_aload_n C dX12_end_26 rfl ?_
      refine m_iload_n C dX12_end_27 rfl ?_
      refine f_putI C dX12_end_28 fl_KilnBenchModel_13 rfl (by decide) (by decide) (by decide) ?_
      refine n_mem (fun μ3 eμ3 => ?_)
      have h := h μ3 eμ3
      refine m_iconst C dX12_end_31 (by unfold in32; omega) ?_
      exact f_zret C R rfl dX12_end_32 (by decide) h
    · have h := h.2 c
      refine m_aload_n C dX12_end_12 rfl ?_
      refine m_iconst C dX12_end_13 (by unfold in32; omega) ?_
      refine f_callVi (As := [vI 0]) (st := []) C dX12_end_14 ml_KilnBenchModel_216 rfl (by decide) rfl rfl rfl (Nat.le_of_ble_eq_true rfl) h (fun r5 μ4 h => ?_)
      refine m_if_lt (tgt := 24) C dX12_end_17 (by decide) (fun c => ?_) (fun c => ?_)
      · have h := h.1 c
        refine m_iconst C dX12_end_24 (by unfold in32; omega) ?_
        exact f_zret C R rfl dX12_end_25 (by decide) h
      · have h := h.2 c
        refine m_iconst C dX12_end_20 (by unfold in32; omega) ?_
        refine m_goto (tgt := 25) C dX12_end_21 (by decide) ?_
        exact f_zret C R rfl dX12_end_25 (by decide) h

set_option maxRecDepth 20000 in
theorem VX12_blame_0 {G : m_G} {X : m_X} {d : Nat} {K : m_M → Prop} (C : mC G X YX12_blame (d + 1)) (R : r_v G X K) {μ : m_M} {a1 : Int} {a2 : Int}
    (h : ((μ 34 0 8 ≤ 0) → ∀ μ1 : m_M, μ1 = m_up μ 34 0 8 a1 → ∀ μ2 : m_M, μ2 = m_up μ1 34 0 9 a2 → K μ2) ∧ ((¬ μ 34 0 8 ≤ 0) → K μ)) :
    mW G X YX12_blame μ 0 [some (vR 34 0), some (vI a1), some (vI a2)] [] := by
  refine m_aload_n C dX12_blame_0 rfl ?_
  refine f_getI C dX12_blame_1 fl_KilnBenchModel_36 rfl (by decide) (by decide) ?_
  refine m_if_le (tgt := 8) C dX12_blame_4 (by decide) (fun c => ?_) (fun c => ?_)
  · have h := h.1 c
    refine m_aload_n C dX12_blame_8 rfl ?_
    refine m_iload_n C dX12_blame_9 rfl ?_
    refine f_putI C dX12_blame_10 fl_KilnBenchModel_36 rfl (by decide) (by decide) (by decide) ?_
    refine n_mem (fun μ1 eμ1 => ?_)
    have h := h μ1 eμ1
    refine m_aload_n C dX12_blame_13 rfl ?_
    refine m_iload_n C dX12_blame_14 rfl ?_
    refine f_putI C dX12_blame_15 fl_KilnBenchModel_39 rfl (by decide) (by decide) (by decide) ?_
    refine n_mem (fun μ2 eμ2 => ?_)
    have h := h μ2 eμ2
    exact f_vret C R rfl dX12_blame_18 h
  · have h := h.2 c
    exact f_vret C R rfl dX12_blame_7 h

set_option maxRecDepth 20000 in
theorem VX12_isLetter_0 {G : m_G} {X : m_X} {d : Nat} {K : Int → m_M → Prop} (C : mC G X YX12_isLetter (d + 1)) (R : r_i G X K) {μ : m_M} {a1 : Int}
    (h : ((a1 < 97) → K 0 μ) ∧ ((¬ a1 < 97) → ((122 < a1) → K 0 μ) ∧ ((¬ 122 < a1) → K 1 μ))) :
    mW G X YX12_isLetter μ 0 [some (vI a1)] [] := by
  refine m_iload_n C dX12_isLetter_0 rfl ?_
  refine m_bipush C dX12_isLetter_1 (by omega) ?_
  refine m_icmp_lt (tgt := 16) C dX12_isLetter_3 (by decide) (fun c => ?_) (fun c => ?_)
  · have h := h.1 c
    refine m_iconst C dX12_isLetter_16 (by unfold in32; omega) ?_
    exact f_zret C R rfl dX12_isLetter_17 (by decide) h
  · have h := h.2 c
    refine m_iload_n C dX12_isLetter_6 rfl ?_
    refine m_bipush C dX12_isLetter_7 (by omega) ?_
    refine m_icmp_gt (tgt := 16) C dX12_isLetter_9 (by decide) (fun c => ?_) (fun c => ?_)
    · have h := h.1 c
      refine m_iconst C dX12_isLetter_16 (by unfold in32; omega) ?_
      exact f_zret C R rfl dX12_isLetter_17 (by decide) h
    · have h := h.2 c
      refine m_iconst C dX12_isLetter_12 (by unfold in32; omega) ?_
      refine m_goto (tgt := 17) C dX12_isLetter_13 (by decide) ?_
      exact f_zret C R rfl dX12_isLetter_17 (by decide) h

set_option maxRecDepth 20000 in
theorem VX12_isDigit_0 {G : m_G} {X : m_X} {d : Nat} {K : Int → m_M → Prop} (C : mC G X YX12_isDigit (d + 1)) (R : r_i G X K) {μ : m_M} {a1 : Int}
    (h : ((a1 < 48) → K 0 μ) ∧ ((¬ a1 < 48) → ((57 < a1) → K 0 μ) ∧ ((¬ 57 < a1) → K 1 μ))) :
    mW G X YX12_isDigit μ 0 [some (vI a1)] [] := by
  refine m_iload_n C dX12_isDigit_0 rfl ?_
  refine m_bipush C dX12_isDigit_1 (by omega) ?_
  refine m_icmp_lt (tgt := 16) C dX12_isDigit_3 (by decide) (fun c => ?_) (fun c => ?_)
  · have h := h.1 c
    refine m_iconst C dX12_isDigit_16 (by unfold in32; omega) ?_
    exact f_zret C R rfl dX12_isDigit_17 (by decide) h
  · have h := h.2 c
    refine m_iload_n C dX12_isDigit_6 rfl ?_
    refine m_bipush C dX12_isDigit_7 (by omega) ?_
    refine m_icmp_gt (tgt := 16) C dX12_isDigit_9 (by decide) (fun c => ?_) (fun c => ?_)
    · have h := h.1 c
      refine m_iconst C dX12_isDigit_16 (by unfold in32; omega) ?_
      exact f_zret C R rfl dX12_isDigit_17 (by decide) h
    · have h := h.2 c
      refine m_iconst C dX12_isDigit_12 (by unfold in32; omega) ?_
      refine m_goto (tgt := 17) C dX12_isDigit_13 (by decide) ?_
      exact f_zret C R rfl dX12_isDigit_17 (by decide) h

set_option maxRecDepth 20000 in
theorem VX12_lex_0 {G : m_G} {X : m_X} {d : Nat} {K : m_M → Prop} (C : mC G X YX12_lex (d + 1)) (R : r_v G X K) {μ : m_M}
    (h : ((μ 34 0 12 = (-1)) → K μ) ∧ ((¬ μ 34 0 12 = (-1)) → c_v G d YX12_blame [vR 34 0, vI 1, vI (μ 34 0 12)] μ (fun μ1 => K μ1))) :
    mW G X YX12_lex μ 0 [some (vR 34 0)] [] := by
  refine m_aload_n C dX12_lex_0 rfl ?_
  refine f_getI C dX12_lex_1 fl_KilnBenchModel_48 rfl (by decide) (by decide) ?_
  refine m_iconst C dX12_lex_4 (by unfold in32; omega) ?_
  refine m_icmp_eq (tgt := 17) C dX12_lex_5 (by decide) (fun c => ?_) (fun c => ?_)
  · have h := h.1 c
    exact f_vret C R rfl dX12_lex_17 h
  · have h := h.2 c
    refine m_aload_n C dX12_lex_8 rfl ?_
    refine m_iconst C dX12_lex_9 (by unfold in32; omega) ?_
    refine m_aload_n C dX12_lex_10 rfl ?_
    refine f_getI C dX12_lex_11 fl_KilnBenchModel_48 rfl (by decide) (by decide) ?_
    refine f_callVv (As := [vI 1, vI (μ 34 0 12)]) (st := []) C dX12_lex_14 ml_KilnBenchModel_224 rfl (by decide) rfl rfl rfl (Nat.le_of_ble_eq_true rfl) h (fun μ1 h => ?_)
    exact f_vret C R rfl dX12_lex_17 h

set_option maxRecDepth 20000 in
theorem VX12_ahead_0 {G : m_G} {X : m_X} {d : Nat} {K : m_M → Prop} (C : mC G X YX12_ahead (d + 1)) (R : r_v G X K) {μ : m_M}
    (h : ∀ x1 : Int, x1 = μ 34 0 5 → mW G X YX12_ahead μ 5 [some (vR 34 0), some (vI x1), none, none, none, none] []) :
    mW G X YX12_ahead μ 0 [some (vR 34 0), none, none, none, none, none] [] := by
  refine m_aload_n C dX12_ahead_0 rfl ?_
  refine f_getI C dX12_ahead_1 fl_KilnBenchModel_26 rfl (by decide) (by decide) ?_
  refine n_istore_n (fun x1 => [some (vR 34 0), some (vI x1), none, none, none, none]) C dX12_ahead_4 (by decide) (fun _ => rfl) (fun x1 ex1 => ?_)
  have h := h x1 ex1
  exact h

set_option maxRecDepth 20000 in
theorem VX12_ahead_5 {G : m_G} {X : m_X} {d : Nat} {K : m_M → Prop} (C : mC G X YX12_ahead (d + 1)) (R : r_v G X K) {μ : m_M} {l1 : Int}
    (h : ((μ 34 0 2 ≤ l1) → mW G X YX12_ahead μ 41 [some (vR 34 0), some (vI l1), none, none, none, none] []) ∧ ((¬ μ 34 0 2 ≤ l1) → (0 ≤ l1 ∧ l1 < 1800) ∧ ((μ 34 1 l1.toNat = 32) → ∀ x1 : Int, x1 = w32 (l1 + 1) → mW G X YX12_ahead μ 5 [some (vR 34 0), some (vI x1), none, none, none, none] []) ∧ ((¬ μ 34 1 l1.toNat = 32) → (0 ≤ l1 ∧ l1 < 1800) ∧ ((¬ (μ 34 1 l1.toNat) = 10) → mW G X YX12_ahead μ 41 [some (vR 34 0), some (vI l1), none, none, none, none] []) ∧ ((μ 34 1 l1.toNat = 10) → ∀ x2 : Int, x2 = w32 (l1 + 1) → mW G X YX12_ahead μ 5 [some (vR 34 0), some (vI x2), none, none, none, none] [])))) :
    mW G X YX12_ahead μ 5 [some (vR 34 0), some (vI l1), none, none, none, none] [] := by
  refine m_iload_n C dX12_ahead_5 rfl ?_
  refine m_aload_n C dX12_ahead_6 rfl ?_
  refine f_getI C dX12_ahead_7 fl_KilnBenchModel_17 rfl (by decide) (by decide) ?_
  refine m_icmp_ge (tgt := 41) C dX12_ahead_10 (by decide) (fun c => ?_) (fun c => ?_)
  · have h := h.1 c
    exact h
  · have h := h.2 c
    refine m_aload_n C dX12_ahead_13 rfl ?_
    refine f_getA C dX12_ahead_14 fl_KilnBenchModel_7 rfl (by decide) (by decide) (by decide) (by decide) ?_
    refine m_iload_n C dX12_ahead_17 rfl ?_
    obtain ⟨hb, h⟩ := h
    refine f_iald C dX12_ahead_18 (m_arO (a := 0) (len := 1800) rfl rfl) (by decide) hb ?_
    refine m_bipush C dX12_ahead_19 (by omega) ?_
    refine m_icmp_eq (tgt := 35) C dX12_ahead_21 (by decide) (fun c => ?_) (fun c => ?_)
    · have h := h.1 c
      refine n_iinc (fun x1 => [some (vR 34 0), some (vI x1), none, none, none, none]) C dX12_ahead_35 rfl (by decide) (fun _ => rfl) (fun x1 ex1 => ?_)
      have h := h x1 ex1
      refine m_goto (tgt := 5) C dX12_ahead_38 (by decide) ?_
      exact h
    · have h := h.2 c
      refine m_aload_n C dX12_ahead_24 rfl ?_
      refine f_getA C dX12_ahead_25 fl_KilnBenchModel_7 rfl (by decide) (by decide) (by decide) (by decide) ?_
      refine m_iload_n C dX12_ahead_28 rfl ?_
      obtain ⟨hb, h⟩ := h
      refine f_iald C dX12_ahead_29 (m_arO (a := 0) (len := 1800) rfl rfl) (by decide) hb ?_
      refine m_bipush C dX12_ahead_30 (by omega) ?_
      refine m_icmp_ne (tgt := 41) C dX12_ahead_32 (by decide) (fun c => ?_) (fun c => ?_)
      · have h := h.1 c
        exact h
      · have h := h.2 c
        refine n_iinc (fun x2 => [some (vR 34 0), some (vI x2), none, none, none, none]) C dX12_ahead_35 rfl (by decide) (fun _ => rfl) (fun x2 ex2 => ?_)
        have h := h x2 ex2
        refine m_goto (tgt := 5) C dX12_ahead_38 (by decide) ?_
        exact h

set_option maxRecDepth 20000 in
theorem VX12_ahead_41 {G : m_G} {X : m_X} {d : Nat} {K : m_M → Prop} (C : mC G X YX12_ahead (d + 1)) (R : r_v G X K) {μ : m_M} {l1 : Int}
    (h : ∀ μ1 : m_M, μ1 = m_up μ 34 0 4 l1 → ∀ μ2 : m_M, μ2 = m_up μ1 34 0 5 l1 → ∀ μ3 : m_M, μ3 = m_up μ2 34 0 3 0 → ∀ μ4 : m_M, μ4 = m_up μ3 34 0 12 (-1) → ((l1 < μ4 34 0 2) → (0 ≤ l1 ∧ l1 < 1800) ∧ c_i G d YX12_isLetter [vI (μ4 34 1 l1.toNat)] μ4 (fun r6 μ5 => (0 ≤ l1 ∧ l1 < 1800) ∧ c_i G d YX12_isDigit [vI (μ5 34 1 l1.toNat)] μ5 (fun r9 μ8 => ((¬ r6 = 0) → mW G X YX12_ahead μ8 98 [some (vR 34 0), some (vI l1), some (vI r6), some (vI r9), none, none] []) ∧ ((r6 = 0) → ((r9 = 0) → mW G X YX12_ahead μ8 135 [some (vR 34 0), some (vI l1), some (vI r6), some (vI r9), none, none] []) ∧ ((¬ r9 = 0) → mW G X YX12_ahead μ8 98 [some (vR 34 0), some (vI l1), some (vI r6), some (vI r9), none, none] []))))) ∧ ((¬ l1 < μ4 34 0 2) → K μ4)) :
    mW G X YX12_ahead μ 41 [some (vR 34 0), some (vI l1), none, none, none, none] [] := by
  refine m_aload_n C dX12_ahead_41 rfl ?_
  refine m_iload_n C dX12_ahead_42 rfl ?_
  refine f_putI C dX12_ahead_43 fl_KilnBenchModel_23 rfl (by decide) (by decide) (by decide) ?_
  refine n_mem (fun μ1 eμ1 => ?_)
  have h := h μ1 eμ1
  refine m_aload_n C dX12_ahead_46 rfl ?_
  refine m_iload_n C dX12_ahead_47 rfl ?_
  refine f_putI C dX12_ahead_48 fl_KilnBenchModel_26 rfl (by decide) (by decide) (by decide) ?_
  refine n_mem (fun μ2 eμ2 => ?_)
  have h := h μ2 eμ2
  refine m_aload_n C dX12_ahead_51 rfl ?_
  refine m_iconst C dX12_ahead_52 (by unfold in32; omega) ?_
  refine f_putI C dX12_ahead_53 fl_KilnBenchModel_20 rfl (by decide) (by decide) (by decide) ?_
  refine n_mem (fun μ3 eμ3 => ?_)
  have h := h μ3 eμ3
  refine m_aload_n C dX12_ahead_56 rfl ?_
  refine m_iconst C dX12_ahead_57 (by unfold in32; omega) ?_
  refine f_putI C dX12_ahead_58 fl_KilnBenchModel_48 rfl (by decide) (by decide) (by decide) ?_
  refine n_mem (fun μ4 eμ4 => ?_)
  have h := h μ4 eμ4
  refine m_iload_n C dX12_ahead_61 rfl ?_
  refine m_aload_n C dX12_ahead_62 rfl ?_
  refine f_getI C dX12_ahead_63 fl_KilnBenchModel_17 rfl (by decide) (by decide) ?_
  refine m_icmp_lt (tgt := 70) C dX12_ahead_66 (by decide) (fun c => ?_) (fun c => ?_)
  · have h := h.1 c
    refine m_aload_n C dX12_ahead_70 rfl ?_
    refine f_getA C dX12_ahead_71 fl_KilnBenchModel_7 rfl (by decide) (by decide) (by decide) (by decide) ?_
    refine m_iload_n C dX12_ahead_74 rfl ?_
    obtain ⟨hb, h⟩ := h
    refine f_iald C dX12_ahead_75 (m_arO (a := 0) (len := 1800) rfl rfl) (by decide) hb ?_
    refine f_callSi (As := [vI (μ4 34 1 l1.toNat)]) (st := []) C dX12_ahead_76 ml_KilnBenchModel_228 rfl rfl (Nat.le_of_ble_eq_true rfl) h (fun r6 μ5 h => ?_)
    refine o_istore_n [some (vR 34 0), some (vI l1), some (vI r6), none, none, none] C dX12_ahead_79 (by decide) rfl ?_
    refine m_aload_n C dX12_ahead_80 rfl ?_
    refine f_getA C dX12_ahead_81 fl_KilnBenchModel_7 rfl (by decide) (by decide) (by decide) (by decide) ?_
    refine m_iload_n C dX12_ahead_84 rfl ?_
    obtain ⟨hb, h⟩ := h
    refine f_iald C dX12_ahead_85 (m_arO (a := 0) (len := 1800) rfl rfl) (by decide) hb ?_
    refine f_callSi (As := [vI (μ5 34 1 l1.toNat)]) (st := []) C dX12_ahead_86 ml_KilnBenchModel_232 rfl rfl (Nat.le_of_ble_eq_true rfl) h (fun r9 μ8 h => ?_)
    refine o_istore_n [some (vR 34 0), some (vI l1), some (vI r6), some (vI r9), none, none] C dX12_ahead_89 (by decide) rfl ?_
    refine m_iload_n C dX12_ahead_90 rfl ?_
    refine m_if_ne (tgt := 98) C dX12_ahead_91 (by decide) (fun c => ?_) (fun c => ?_)
    · have h := h.1 c
      exact h
    · have h := h.2 c
      refine m_iload_n C dX12_ahead_94 rfl ?_
      refine m_if_eq (tgt := 135) C dX12_ahead_95 (by decide) (fun c => ?_) (fun c => ?_)
      · have h := h.1 c
        exact h
      · have h := h.2 c
        exact h
  · have h := h.2 c
    exact f_vret C R rfl dX12_ahead_69 h

set_option maxRecDepth 20000 in
theorem VX12_ahead_98 {G : m_G} {X : m_X} {d : Nat} {K : m_M → Prop} (C : mC G X YX12_ahead (d + 1)) (R : r_v G X K) {μ : m_M} {l1 : Int} {l2 : Int} {l3 : Int}
    (h : ((l1 ≤ 0) → mW G X YX12_ahead μ 135 [some (vR 34 0), some (vI l1), some (vI l2), some (vI l3), none, none] []) ∧ ((¬ l1 ≤ 0) → (0 ≤ w32 (l1 - 1) ∧ w32 (l1 - 1) < 1800) ∧ c_i G d YX12_isLetter [vI (μ 34 1 (w32 (l1 - 1)).toNat)] μ (fun r2 μ1 => ((¬ r2 = 0) → mW G X YX12_ahead μ1 130 [some (vR 34 0), some (vI l1), some (vI l2), some (vI l3), none, none] []) ∧ ((r2 = 0) → (0 ≤ w32 (l1 - 1) ∧ w32 (l1 - 1) < 1800) ∧ c_i G d YX12_isDigit [vI (μ1 34 1 (w32 (l1 - 1)).toNat)] μ1 (fun r4 μ3 => ((r4 = 0) → mW G X YX12_ahead μ3 135 [some (vR 34 0), some (vI l1), some (vI l2), some (vI l3), none, none] []) ∧ ((¬ r4 = 0) → mW G X YX12_ahead μ3 130 [some (vR 34 0), some (vI l1), some (vI l2), some (vI l3), none, none] [])))))) :
    mW G X YX12_ahead μ 98 [some (vR 34 0), some (vI l1), some (vI l2), some (vI l3), none, none] [] := by
  refine m_iload_n C dX12_ahead_98 rfl ?_
  refine m_if_le (tgt := 135) C dX12_ahead_99 (by decide) (fun c => ?_) (fun c => ?_)
  · have h := h.1 c
    exact h
  · have h := h.2 c
    refine m_aload_n C dX12_ahead_102 rfl ?_
    refine f_getA C dX12_ahead_103 fl_KilnBenchModel_7 rfl (by decide) (by decide) (by decide) (by decide) ?_
    refine m_iload_n C dX12_ahead_106 rfl ?_
    refine m_iconst C dX12_ahead_107 (by unfold in32; omega) ?_
    refine m_isub C dX12_ahead_108 ?_
    obtain ⟨hb, h⟩ := h
    refine f_iald C dX12_ahead_109 (m_arO (a := 0) (len := 1800) rfl rfl) (by decide) hb ?_
    refine f_callSi (As := [vI (μ 34 1 (w32 (l1 - 1)).toNat)]) (st := []) C dX12_ahead_110 ml_KilnBenchModel_228 rfl rfl (Nat.le_of_ble_eq_true rfl) h (fun r2 μ1 h => ?_)
    refine m_if_ne (tgt := 130) C dX12_ahead_113 (by decide) (fun c => ?_) (fun c => ?_)
    · have h := h.1 c
      exact h
    · have h := h.2 c
      refine m_aload_n C dX12_ahead_116 rfl ?_
      refine f_getA C dX12_ahead_117 fl_KilnBenchModel_7 rfl (by decide) (by decide) (by decide) (by decide) ?_
      refine m_iload_n C dX12_ahead_120 rfl ?_
      refine m_iconst C dX12_ahead_121 (by unfold in32; omega) ?_
      refine m_isub C dX12_ahead_122 ?_
      obtain ⟨hb, h⟩ := h
      refine f_iald C dX12_ahead_123 (m_arO (a := 0) (len := 1800) rfl rfl) (by decide) hb ?_
      refine f_callSi (As := [vI (μ1 34 1 (w32 (l1 - 1)).toNat)]) (st := []) C dX12_ahead_124 ml_KilnBenchModel_232 rfl rfl (Nat.le_of_ble_eq_true rfl) h (fun r4 μ3 h => ?_)
      refine m_if_eq (tgt := 135) C dX12_ahead_127 (by decide) (fun c => ?_) (fun c => ?_)
      · have h := h.1 c
        exact h
      · have h := h.2 c
        exact h

set_option maxRecDepth 20000 in
theorem VX12_ahead_130 {G : m_G} {X : m_X} {d : Nat} {K : m_M → Prop} (C : mC G X YX12_ahead (d + 1)) (R : r_v G X K) {μ : m_M} {l1 : Int} {l2 : Int} {l3 : Int}
    (h : ∀ μ1 : m_M, μ1 = m_up μ 34 0 12 l1 → mW G X YX12_ahead μ1 135 [some (vR 34 0), some (vI l1), some (vI l2), some (vI l3), none, none] []) :
    mW G X YX12_ahead μ 130 [some (vR 34 0), some (vI l1), some (vI l2), some (vI l3), none, none] [] := by
  refine m_aload_n C dX12_ahead_130 rfl ?_
  refine m_iload_n C dX12_ahead_131 rfl ?_
  refine f_putI C dX12_ahead_132 fl_KilnBenchModel_48 rfl (by decide) (by decide) (by decide) ?_
  refine n_mem (fun μ1 eμ1 => ?_)
  have h := h μ1 eμ1
  exact h

set_option maxRecDepth 20000 in
theorem VX12_ahead_135 {G : m_G} {X : m_X} {d : Nat} {K : m_M → Prop} (C : mC G X YX12_ahead (d + 1)) (R : r_v G X K) {μ : m_M} {l1 : Int} {l2 : Int} {l3 : Int}
    (h : ∀ μ1 : m_M, μ1 = m_up μ 34 0 6 0 → ∀ μ2 : m_M, μ2 = m_up μ1 34 0 7 0 → ∀ μ3 : m_M, μ3 = m_up μ2 34 0 3 3 → ∀ μ4 : m_M, μ4 = m_up μ3 34 0 5 (w32 (l1 + 1)) → ((¬ l2 = 0) → mW G X YX12_ahead μ4 176 [some (vR 34 0), some (vI l1), some (vI l2), some (vI l3), none, none] []) ∧ ((l2 = 0) → ((¬ l3 = 0) → mW G X YX12_ahead μ4 176 [some (vR 34 0), some (vI l1), some (vI l2), some (vI l3), none, none] []) ∧ ((l3 = 0) → (0 ≤ l1 ∧ l1 < 1800) ∧ ∀ μ5 : m_M, μ5 = m_up μ4 34 0 6 (μ4 34 1 l1.toNat) → K μ5))) :
    mW G X YX12_ahead μ 135 [some (vR 34 0), some (vI l1), some (vI l2), some (vI l3), none, none] [] := by
  refine m_aload_n C dX12_ahead_135 rfl ?_
  refine m_iconst C dX12_ahead_136 (by unfold in32; omega) ?_
  refine f_putI C dX12_ahead_137 fl_KilnBenchModel_29 rfl (by decide) (by decide) (by decide) ?_
  refine n_mem (fun μ1 eμ1 => ?_)
  have h := h μ1 eμ1
  refine m_aload_n C dX12_ahead_140 rfl ?_
  refine m_lconst (x := 0) C dX12_ahead_141 rfl ?_
  refine f_putJ C dX12_ahead_142 fl_KilnBenchModel_32 rfl (by decide) (by decide) (by decide) ?_
  refine n_mem (fun μ2 eμ2 => ?_)
  have h := h μ2 eμ2
  refine m_aload_n C dX12_ahead_145 rfl ?_
  refine m_iconst C dX12_ahead_146 (by unfold in32; omega) ?_
  refine f_putI C dX12_ahead_147 fl_KilnBenchModel_20 rfl (by decide) (by decide) (by decide) ?_
  refine n_mem (fun μ3 eμ3 => ?_)
  have h := h μ3 eμ3
  refine m_aload_n C dX12_ahead_150 rfl ?_
  refine m_iload_n C dX12_ahead_151 rfl ?_
  refine m_iconst C dX12_ahead_152 (by unfold in32; omega) ?_
  refine m_iadd C dX12_ahead_153 ?_
  refine f_putI C dX12_ahead_154 fl_KilnBenchModel_26 rfl (by decide) (by decide) (by decide) ?_
  refine n_mem (fun μ4 eμ4 => ?_)
  have h := h μ4 eμ4
  refine m_iload_n C dX12_ahead_157 rfl ?_
  refine m_if_ne (tgt := 176) C dX12_ahead_158 (by decide) (fun c => ?_) (fun c => ?_)
  · have h := h.1 c
    exact h
  · have h := h.2 c
    refine m_iload_n C dX12_ahead_161 rfl ?_
    refine m_if_ne (tgt := 176) C dX12_ahead_162 (by decide) (fun c => ?_) (fun c => ?_)
    · have h := h.1 c
      exact h
    · have h := h.2 c
      refine m_aload_n C dX12_ahead_165 rfl ?_
      refine m_aload_n C dX12_ahead_166 rfl ?_
      refine f_getA C dX12_ahead_167 fl_KilnBenchModel_7 rfl (by decide) (by decide) (by decide) (by decide) ?_
      refine m_iload_n C dX12_ahead_170 rfl ?_
      obtain ⟨hb, h⟩ := h
      refine f_iald C dX12_ahead_171 (m_arO (a := 0) (len := 1800) rfl rfl) (by decide) hb ?_
      refine f_putI C dX12_ahead_172 fl_KilnBenchModel_29 rfl (by decide) (by decide) (by decide) ?_
      refine n_mem (fun μ5 eμ5 => ?_)
      have h := h μ5 eμ5
      exact f_vret C R rfl dX12_ahead_175 h

set_option maxRecDepth 20000 in
theorem VX12_ahead_176 {G : m_G} {X : m_X} {d : Nat} {K : m_M → Prop} (C : mC G X YX12_ahead (d + 1)) (R : r_v G X K) {μ : m_M} {l1 : Int} {l2 : Int} {l3 : Int}
    (h : ((l2 = 0) → ∀ μ1 : m_M, μ1 = m_up μ 34 0 3 2 → ((l2 = 0) → mW G X YX12_ahead μ1 204 [some (vR 34 0), some (vI l1), some (vI l2), some (vI l3), some (vI 4), some (vI 0)] []) ∧ ((¬ l2 = 0) → mW G X YX12_ahead μ1 204 [some (vR 34 0), some (vI l1), some (vI l2), some (vI l3), some (vI 6), some (vI 0)] [])) ∧ ((¬ l2 = 0) → ∀ μ6 : m_M, μ6 = m_up μ 34 0 3 1 → ((l2 = 0) → mW G X YX12_ahead μ6 204 [some (vR 34 0), some (vI l1), some (vI l2), some (vI l3), some (vI 4), some (vI 0)] []) ∧ ((¬ l2 = 0) → mW G X YX12_ahead μ6 204 [some (vR 34 0), some (vI l1), some (vI l2), some (vI l3), some (vI 6), some (vI 0)] []))) :
    mW G X YX12_ahead μ 176 [some (vR 34 0), some (vI l1), some (vI l2), some (vI l3), none, none] [] := by
  refine m_aload_n C dX12_ahead_176 rfl ?_
  refine m_iload_n C dX12_ahead_177 rfl ?_
  refine m_if_eq (tgt := 185) C dX12_ahead_178 (by decide) (fun c => ?_) (fun c => ?_)
  · have h := h.1 c
    refine m_iconst C dX12_ahead_185 (by unfold in32; omega) ?_
    refine f_putI C dX12_ahead_186 fl_KilnBenchModel_20 rfl (by decide) (by decide) (by decide) ?_
    refine n_mem (fun μ1 eμ1 => ?_)
    have h := h μ1 eμ1
    refine m_iload_n C dX12_ahead_189 rfl ?_
    refine m_if_eq (tgt := 198) C dX12_ahead_190 (by decide) (fun c => ?_) (fun c => ?_)
    · have h := h.1 c
      refine m_iconst C dX12_ahead_198 (by unfold in32; omega) ?_
      refine o_istore [some (vR 34 0), some (vI l1), some (vI l2), some (vI l3), some (vI 4), none] C dX12_ahead_199 (by decide) rfl ?_
      refine m_iconst C dX12_ahead_201 (by unfold in32; omega) ?_
      refine o_istore [some (vR 34 0), some (vI l1), some (vI l2), some (vI l3), some (vI 4), some (vI 0)] C dX12_ahead_202 (by decide) rfl ?_
      exact h
    · have h := h.2 c
      refine m_bipush C dX12_ahead_193 (by omega) ?_
      refine m_goto (tgt := 199) C dX12_ahead_195 (by decide) ?_
      refine o_istore [some (vR 34 0), some (vI l1), some (vI l2), some (vI l3), some (vI 6), none] C dX12_ahead_199 (by decide) rfl ?_
      refine m_iconst C dX12_ahead_201 (by unfold in32; omega) ?_
      refine o_istore [some (vR 34 0), some (vI l1), some (vI l2), some (vI l3), some (vI 6), some (vI 0)] C dX12_ahead_202 (by decide) rfl ?_
      exact h
  · have h := h.2 c
    refine m_iconst C dX12_ahead_181 (by unfold in32; omega) ?_
    refine m_goto (tgt := 186) C dX12_ahead_182 (by decide) ?_
    refine f_putI C dX12_ahead_186 fl_KilnBenchModel_20 rfl (by decide) (by decide) (by decide) ?_
    refine n_mem (fun μ6 eμ6 => ?_)
    have h := h μ6 eμ6
    refine m_iload_n C dX12_ahead_189 rfl ?_
    refine m_if_eq (tgt := 198) C dX12_ahead_190 (by decide) (fun c => ?_) (fun c => ?_)
    · have h := h.1 c
      refine m_iconst C dX12_ahead_198 (by unfold in32; omega) ?_
      refine o_istore [some (vR 34 0), some (vI l1), some (vI l2), some (vI l3), some (vI 4), none] C dX12_ahead_199 (by decide) rfl ?_
      refine m_iconst C dX12_ahead_201 (by unfold in32; omega) ?_
      refine o_istore [some (vR 34 0), some (vI l1), some (vI l2), some (vI l3), some (vI 4), some (vI 0)] C dX12_ahead_202 (by decide) rfl ?_
      exact h
    · have h := h.2 c
      refine m_bipush C dX12_ahead_193 (by omega) ?_
      refine m_goto (tgt := 199) C dX12_ahead_195 (by decide) ?_
      refine o_istore [some (vR 34 0), some (vI l1), some (vI l2), some (vI l3), some (vI 6), none] C dX12_ahead_199 (by decide) rfl ?_
      refine m_iconst C dX12_ahead_201 (by unfold in32; omega) ?_
      refine o_istore [some (vR 34 0), some (vI l1), some (vI l2), some (vI l3), some (vI 6), some (vI 0)] C dX12_ahead_202 (by decide) rfl ?_
      exact h

set_option maxRecDepth 20000 in
theorem VX12_ahead_204 {G : m_G} {X : m_X} {d : Nat} {K : m_M → Prop} (C : mC G X YX12_ahead (d + 1)) (R : r_v G X K) {μ : m_M} {l1 : Int} {l2 : Int} {l3 : Int} {l4 : Int} {l5 : Int}
    (h : ((μ 34 0 2 ≤ l1) → ∀ μ1 : m_M, μ1 = m_up μ 34 0 5 l1 → K μ1) ∧ ((¬ μ 34 0 2 ≤ l1) → ((l2 = 0) → (0 ≤ l1 ∧ l1 < 1800) ∧ c_i G d YX12_isDigit [vI (μ 34 1 l1.toNat)] μ (fun r3 μ2 => ((r3 = 0) → ∀ μ4 : m_M, μ4 = m_up μ2 34 0 5 l1 → K μ4) ∧ ((¬ r3 = 0) → mW G X YX12_ahead μ2 243 [some (vR 34 0), some (vI l1), some (vI l2), some (vI l3), some (vI l4), some (vI l5)] []))) ∧ ((¬ l2 = 0) → (0 ≤ l1 ∧ l1 < 1800) ∧ c_i G d YX12_isLetter [vI (μ 34 1 l1.toNat)] μ (fun r6 μ5 => ((r6 = 0) → ∀ μ7 : m_M, μ7 = m_up μ5 34 0 5 l1 → K μ7) ∧ ((¬ r6 = 0) → mW G X YX12_ahead μ5 243 [some (vR 34 0), some (vI l1), some (vI l2), some (vI l3), some (vI l4), some (vI l5)] []))))) :
    mW G X YX12_ahead μ 204 [some (vR 34 0), some (vI l1), some (vI l2), some (vI l3), some (vI l4), some (vI l5)] [] := by
  refine m_iload_n C dX12_ahead_204 rfl ?_
  refine m_aload_n C dX12_ahead_205 rfl ?_
  refine f_getI C dX12_ahead_206 fl_KilnBenchModel_17 rfl (by decide) (by decide) ?_
  refine m_icmp_ge (tgt := 334) C dX12_ahead_209 (by decide) (fun c => ?_) (fun c => ?_)
  · have h := h.1 c
    refine m_aload_n C dX12_ahead_334 rfl ?_
    refine m_iload_n C dX12_ahead_335 rfl ?_
    refine f_putI C dX12_ahead_336 fl_KilnBenchModel_26 rfl (by decide) (by decide) (by decide) ?_
    refine n_mem (fun μ1 eμ1 => ?_)
    have h := h μ1 eμ1
    exact f_vret C R rfl dX12_ahead_339 h
  · have h := h.2 c
    refine m_iload_n C dX12_ahead_212 rfl ?_
    refine m_if_eq (tgt := 231) C dX12_ahead_213 (by decide) (fun c => ?_) (fun c => ?_)
    · have h := h.1 c
      refine m_aload_n C dX12_ahead_231 rfl ?_
      refine f_getA C dX12_ahead_232 fl_KilnBenchModel_7 rfl (by decide) (by decide) (by decide) (by decide) ?_
      refine m_iload_n C dX12_ahead_235 rfl ?_
      obtain ⟨hb, h⟩ := h
      refine f_iald C dX12_ahead_236 (m_arO (a := 0) (len := 1800) rfl rfl) (by decide) hb ?_
      refine f_callSi (As := [vI (μ 34 1 l1.toNat)]) (st := []) C dX12_ahead_237 ml_KilnBenchModel_232 rfl rfl (Nat.le_of_ble_eq_true rfl) h (fun r3 μ2 h => ?_)
      refine m_if_eq (tgt := 334) C dX12_ahead_240 (by decide) (fun c => ?_) (fun c => ?_)
      · have h := h.1 c
        refine m_aload_n C dX12_ahead_334 rfl ?_
        refine m_iload_n C dX12_ahead_335 rfl ?_
        refine f_putI C dX12_ahead_336 fl_KilnBenchModel_26 rfl (by decide) (by decide) (by decide) ?_
        refine n_mem (fun μ4 eμ4 => ?_)
        have h := h μ4 eμ4
        exact f_vret C R rfl dX12_ahead_339 h
      · have h := h.2 c
        exact h
    · have h := h.2 c
      refine m_aload_n C dX12_ahead_216 rfl ?_
      refine f_getA C dX12_ahead_217 fl_KilnBenchModel_7 rfl (by decide) (by decide) (by decide) (by decide) ?_
      refine m_iload_n C dX12_ahead_220 rfl ?_
      obtain ⟨hb, h⟩ := h
      refine f_iald C dX12_ahead_221 (m_arO (a := 0) (len := 1800) rfl rfl) (by decide) hb ?_
      refine f_callSi (As := [vI (μ 34 1 l1.toNat)]) (st := []) C dX12_ahead_222 ml_KilnBenchModel_228 rfl rfl (Nat.le_of_ble_eq_true rfl) h (fun r6 μ5 h => ?_)
      refine m_if_eq (tgt := 334) C dX12_ahead_225 (by decide) (fun c => ?_) (fun c => ?_)
      · have h := h.1 c
        refine m_aload_n C dX12_ahead_334 rfl ?_
        refine m_iload_n C dX12_ahead_335 rfl ?_
        refine f_putI C dX12_ahead_336 fl_KilnBenchModel_26 rfl (by decide) (by decide) (by decide) ?_
        refine n_mem (fun μ7 eμ7 => ?_)
        have h := h μ7 eμ7
        exact f_vret C R rfl dX12_ahead_339 h
      · have h := h.2 c
        refine m_goto (tgt := 243) C dX12_ahead_228 (by decide) ?_
        exact h

set_option maxRecDepth 20000 in
theorem VX12_ahead_243 {G : m_G} {X : m_X} {d : Nat} {K : m_M → Prop} (C : mC G X YX12_ahead (d + 1)) (R : r_v G X K) {μ : m_M} {l1 : Int} {l2 : Int} {l3 : Int} {l4 : Int} {l5 : Int}
    (h : ((¬ l5 = l4) → mW G X YX12_ahead μ 263 [some (vR 34 0), some (vI l1), some (vI l2), some (vI l3), some (vI l4), some (vI l5)] []) ∧ ((l5 = l4) → ((¬ (μ 34 0 12) = (-1)) → mW G X YX12_ahead μ 263 [some (vR 34 0), some (vI l1), some (vI l2), some (vI l3), some (vI l4), some (vI l5)] []) ∧ ((μ 34 0 12 = (-1)) → ∀ μ1 : m_M, μ1 = m_up μ 34 0 12 l1 → mW G X YX12_ahead μ1 263 [some (vR 34 0), some (vI l1), some (vI l2), some (vI l3), some (vI l4), some (vI l5)] []))) :
    mW G X YX12_ahead μ 243 [some (vR 34 0), some (vI l1), some (vI l2), some (vI l3), some (vI l4), some (vI l5)] [] := by
  refine m_iload C dX12_ahead_243 rfl ?_
  refine m_iload C dX12_ahead_245 rfl ?_
  refine m_icmp_ne (tgt := 263) C dX12_ahead_247 (by decide) (fun c => ?_) (fun c => ?_)
  · have h := h.1 c
    exact h
  · have h := h.2 c
    refine m_aload_n C dX12_ahead_250 rfl ?_
    refine f_getI C dX12_ahead_251 fl_KilnBenchModel_48 rfl (by decide) (by decide) ?_
    refine m_iconst C dX12_ahead_254 (by unfold in32; omega) ?_
    refine m_icmp_ne (tgt := 263) C dX12_ahead_255 (by decide) (fun c => ?_) (fun c => ?_)
    · have h := h.1 c
      exact h
    · have h := h.2 c
      refine m_aload_n C dX12_ahead_258 rfl ?_
      refine m_iload_n C dX12_ahead_259 rfl ?_
      refine f_putI C dX12_ahead_260 fl_KilnBenchModel_48 rfl (by decide) (by decide) (by decide) ?_
      refine n_mem (fun μ1 eμ1 => ?_)
      have h := h μ1 eμ1
      exact h

set_option maxRecDepth 20000 in
theorem VX12_ahead_263 {G : m_G} {X : m_X} {d : Nat} {K : m_M → Prop} (C : mC G X YX12_ahead (d + 1)) (R : r_v G X K) {μ : m_M} {l1 : Int} {l2 : Int} {l3 : Int} {l4 : Int} {l5 : Int}
    (h : ((l4 ≤ l5) → mW G X YX12_ahead μ 293 [some (vR 34 0), some (vI l1), some (vI l2), some (vI l3), some (vI l4), some (vI l5)] []) ∧ ((¬ l4 ≤ l5) → ((l2 = 0) → mW G X YX12_ahead μ 293 [some (vR 34 0), some (vI l1), some (vI l2), some (vI l3), some (vI l4), some (vI l5)] []) ∧ ((¬ l2 = 0) → (0 ≤ l1 ∧ l1 < 1800) ∧ ∀ μ1 : m_M, μ1 = m_up μ 34 0 7 (l_or (l_shl (μ 34 0 7) 8) (μ 34 1 l1.toNat)) → mW G X YX12_ahead μ1 293 [some (vR 34 0), some (vI l1), some (vI l2), some (vI l3), some (vI l4), some (vI l5)] []))) :
    mW G X YX12_ahead μ 263 [some (vR 34 0), some (vI l1), some (vI l2), some (vI l3), some (vI l4), some (vI l5)] [] := by
  refine m_iload C dX12_ahead_263 rfl ?_
  refine m_iload C dX12_ahead_265 rfl ?_
  refine m_icmp_ge (tgt := 293) C dX12_ahead_267 (by decide) (fun c => ?_) (fun c => ?_)
  · have h := h.1 c
    exact h
  · have h := h.2 c
    refine m_iload_n C dX12_ahead_270 rfl ?_
    refine m_if_eq (tgt := 293) C dX12_ahead_271 (by decide) (fun c => ?_) (fun c => ?_)
    · have h := h.1 c
      exact h
    · have h := h.2 c
      refine m_aload_n C dX12_ahead_274 rfl ?_
      refine m_aload_n C dX12_ahead_275 rfl ?_
      refine f_getJ C dX12_ahead_276 fl_KilnBenchModel_32 rfl (by decide) (by decide) ?_
      refine m_bipush C dX12_ahead_279 (by omega) ?_
      refine m_lshl C dX12_ahead_281 ?_
      refine m_aload_n C dX12_ahead_282 rfl ?_
      refine f_getA C dX12_ahead_283 fl_KilnBenchModel_7 rfl (by decide) (by decide) (by decide) (by decide) ?_
      refine m_iload_n C dX12_ahead_286 rfl ?_
      obtain ⟨hb, h⟩ := h
      refine f_iald C dX12_ahead_287 (m_arO (a := 0) (len := 1800) rfl rfl) (by decide) hb ?_
      refine m_i2l C dX12_ahead_288 ?_
      refine m_lor C dX12_ahead_289 ?_
      refine f_putJ C dX12_ahead_290 fl_KilnBenchModel_32 rfl (by decide) (by decide) (by decide) ?_
      refine n_mem (fun μ1 eμ1 => ?_)
      have h := h μ1 eμ1
      exact h

set_option maxRecDepth 20000 in
theorem VX12_ahead_293 {G : m_G} {X : m_X} {d : Nat} {K : m_M → Prop} (C : mC G X YX12_ahead (d + 1)) (R : r_v G X K) {μ : m_M} {l1 : Int} {l2 : Int} {l3 : Int} {l4 : Int} {l5 : Int}
    (h : ((l4 ≤ l5) → ∀ x1 : Int, x1 = w32 (l5 + 1) → ∀ x2 : Int, x2 = w32 (l1 + 1) → mW G X YX12_ahead μ 204 [some (vR 34 0), some (vI x2), some (vI l2), some (vI l3), some (vI l4), some (vI x1)] []) ∧ ((¬ l4 ≤ l5) → ((l3 = 0) → ∀ x3 : Int, x3 = w32 (l5 + 1) → ∀ x4 : Int, x4 = w32 (l1 + 1) → mW G X YX12_ahead μ 204 [some (vR 34 0), some (vI x4), some (vI l2), some (vI l3), some (vI l4), some (vI x3)] []) ∧ ((¬ l3 = 0) → (0 ≤ l1 ∧ l1 < 1800) ∧ ∀ μ5 : m_M, μ5 = m_up μ 34 0 6 (w32 ((w32 ((w32 (10 * (μ 34 0 6))) + (μ 34 1 l1.toNat))) - 48)) → ∀ x6 : Int, x6 = w32 (l5 + 1) → ∀ x7 : Int, x7 = w32 (l1 + 1) → mW G X YX12_ahead μ5 204 [some (vR 34 0), some (vI x7), some (vI l2), some (vI l3), some (vI l4), some (vI x6)] []))) :
    mW G X YX12_ahead μ 293 [some (vR 34 0), some (vI l1), some (vI l2), some (vI l3), some (vI l4), some (vI l5)] [] := by
  refine m_iload C dX12_ahead_293 rfl ?_
  refine m_iload C dX12_ahead_295 rfl ?_
  refine m_icmp_ge (tgt := 325) C dX12_ahead_297 (by decide) (fun c => ?_) (fun c => ?_)
  · have h := h.1 c
    refine n_iinc (fun x1 => [some (vR 34 0), some (vI l1), some (vI l2), some (vI l3), some (vI l4), some (vI x1)]) C dX12_ahead_325 rfl (by decide) (fun _ => rfl) (fun x1 ex1 => ?_)
    have h := h x1 ex1
    refine n_iinc (fun x2 => [some (vR 34 0), some (vI x2), some (vI l2), some (vI l3), some (vI l4), some (vI x1)]) C dX12_ahead_328 rfl (by decide) (fun _ => rfl) (fun x2 ex2 => ?_)
    have h := h x2 ex2
    refine m_goto (tgt := 204) C dX12_ahead_331 (by decide) ?_
    exact h
  · have h := h.2 c
    refine m_iload_n C dX12_ahead_300 rfl ?_
    refine m_if_eq (tgt := 325) C dX12_ahead_301 (by decide) (fun c => ?_) (fun c => ?_)
    · have h := h.1 c
      refine n_iinc (fun x3 => [some (vR 34 0), some (vI l1), some (vI l2), some (vI l3), some (vI l4), some (vI x3)]) C dX12_ahead_325 rfl (by decide) (fun _ => rfl) (fun x3 ex3 => ?_)
      have h := h x3 ex3
      refine n_iinc (fun x4 => [some (vR 34 0), some (vI x4), some (vI l2), some (vI l3), some (vI l4), some (vI x3)]) C dX12_ahead_328 rfl (by decide) (fun _ => rfl) (fun x4 ex4 => ?_)
      have h := h x4 ex4
      refine m_goto (tgt := 204) C dX12_ahead_331 (by decide) ?_
      exact h
    · have h := h.2 c
      refine m_aload_n C dX12_ahead_304 rfl ?_
      refine m_bipush C dX12_ahead_305 (by omega) ?_
      refine m_aload_n C dX12_ahead_307 rfl ?_
      refine f_getI C dX12_ahead_308 fl_KilnBenchModel_29 rfl (by decide) (by decide) ?_
      refine m_imul C dX12_ahead_311 ?_
      refine m_aload_n C dX12_ahead_312 rfl ?_
      refine f_getA C dX12_ahead_313 fl_KilnBenchModel_7 rfl (by decide) (by decide) (by decide) (by decide) ?_
      refine m_iload_n C dX12_ahead_316 rfl ?_
      obtain ⟨hb, h⟩ := h
      refine f_iald C dX12_ahead_317 (m_arO (a := 0) (len := 1800) rfl rfl) (by decide) hb ?_
      refine m_iadd C dX12_ahead_318 ?_
      refine m_bipush C dX12_ahead_319 (by omega) ?_
      refine m_isub C dX12_ahead_321 ?_
      refine f_putI C dX12_ahead_322 fl_KilnBenchModel_29 rfl (by decide) (by decide) (by decide) ?_
      refine n_mem (fun μ5 eμ5 => ?_)
      have h := h μ5 eμ5
      refine n_iinc (fun x6 => [some (vR 34 0), some (vI l1), some (vI l2), some (vI l3), some (vI l4), some (vI x6)]) C dX12_ahead_325 rfl (by decide) (fun _ => rfl) (fun x6 ex6 => ?_)
      have h := h x6 ex6
      refine n_iinc (fun x7 => [some (vR 34 0), some (vI x7), some (vI l2), some (vI l3), some (vI l4), some (vI x6)]) C dX12_ahead_328 rfl (by decide) (fun _ => rfl) (fun x7 ex7 => ?_)
      have h := h x7 ex7
      refine m_goto (tgt := 204) C dX12_ahead_331 (by decide) ?_
      exact h

set_option maxRecDepth 20000 in
theorem VX12_isSign_0 {G : m_G} {X : m_X} {d : Nat} {K : Int → m_M → Prop} (C : mC G X YX12_isSign (d + 1)) (R : r_i G X K) {μ : m_M} {a1 : Int}
    (h : ((¬ (μ 34 0 3) = 3) → K 0 μ) ∧ ((μ 34 0 3 = 3) → ((¬ (μ 34 0 6) = a1) → K 0 μ) ∧ ((μ 34 0 6 = a1) → K 1 μ))) :
    mW G X YX12_isSign μ 0 [some (vR 34 0), some (vI a1)] [] := by
  refine m_aload_n C dX12_isSign_0 rfl ?_
  refine f_getI C dX12_isSign_1 fl_KilnBenchModel_20 rfl (by decide) (by decide) ?_
  refine m_iconst C dX12_isSign_4 (by unfold in32; omega) ?_
  refine m_icmp_ne (tgt := 20) C dX12_isSign_5 (by decide) (fun c => ?_) (fun c => ?_)
  · have h := h.1 c
    refine m_iconst C dX12_isSign_20 (by unfold in32; omega) ?_
    exact f_zret C R rfl dX12_isSign_21 (by decide) h
  · have h := h.2 c
    refine m_aload_n C dX12_isSign_8 rfl ?_
    refine f_getI C dX12_isSign_9 fl_KilnBenchModel_29 rfl (by decide) (by decide) ?_
    refine m_iload_n C dX12_isSign_12 rfl ?_
    refine m_icmp_ne (tgt := 20) C dX12_isSign_13 (by decide) (fun c => ?_) (fun c => ?_)
    · have h := h.1 c
      refine m_iconst C dX12_isSign_20 (by unfold in32; omega) ?_
      exact f_zret C R rfl dX12_isSign_21 (by decide) h
    · have h := h.2 c
      refine m_iconst C dX12_isSign_16 (by unfold in32; omega) ?_
      refine m_goto (tgt := 21) C dX12_isSign_17 (by decide) ?_
      exact f_zret C R rfl dX12_isSign_21 (by decide) h

set_option maxRecDepth 20000 in
theorem VX12_isWord_0 {G : m_G} {X : m_X} {d : Nat} {K : Int → m_M → Prop} (C : mC G X YX12_isWord (d + 1)) (R : r_i G X K) {μ : m_M} {a1 : Int}
    (h : ((¬ (μ 34 0 3) = 1) → K 0 μ) ∧ ((μ 34 0 3 = 1) → ((¬ (l_cmp (μ 34 0 7) a1) = 0) → K 0 μ) ∧ ((l_cmp (μ 34 0 7) a1 = 0) → K 1 μ))) :
    mW G X YX12_isWord μ 0 [some (vR 34 0), some (vJ a1), none] [] := by
  refine m_aload_n C dX12_isWord_0 rfl ?_
  refine f_getI C dX12_isWord_1 fl_KilnBenchModel_20 rfl (by decide) (by decide) ?_
  refine m_iconst C dX12_isWord_4 (by unfold in32; omega) ?_
  refine m_icmp_ne (tgt := 21) C dX12_isWord_5 (by decide) (fun c => ?_) (fun c => ?_)
  · have h := h.1 c
    refine m_iconst C dX12_isWord_21 (by unfold in32; omega) ?_
    exact f_zret C R rfl dX12_isWord_22 (by decide) h
  · have h := h.2 c
    refine m_aload_n C dX12_isWord_8 rfl ?_
    refine f_getJ C dX12_isWord_9 fl_KilnBenchModel_32 rfl (by decide) (by decide) ?_
    refine m_lload_n C dX12_isWord_12 rfl ?_
    refine m_lcmp C dX12_isWord_13 ?_
    refine m_if_ne (tgt := 21) C dX12_isWord_14 (by decide) (fun c => ?_) (fun c => ?_)
    · have h := h.1 c
      refine m_iconst C dX12_isWord_21 (by unfold in32; omega) ?_
      exact f_zret C R rfl dX12_isWord_22 (by decide) h
    · have h := h.2 c
      refine m_iconst C dX12_isWord_17 (by unfold in32; omega) ?_
      refine m_goto (tgt := 22) C dX12_isWord_18 (by decide) ?_
      exact f_zret C R rfl dX12_isWord_22 (by decide) h

set_option maxRecDepth 20000 in
theorem VX12_must_0 {G : m_G} {X : m_X} {d : Nat} {K : m_M → Prop} (C : mC G X YX12_must (d + 1)) (R : r_v G X K) {μ : m_M} {a1 : Int}
    (h : c_v G d YX12_lex [vR 34 0] μ (fun μ1 => c_i G d YX12_isSign [vR 34 0, vI a1] μ1 (fun r3 μ2 => ((¬ r3 = 0) → ((¬ (μ2 34 0 8) = 0) → K μ2) ∧ ((μ2 34 0 8 = 0) → c_v G d YX12_ahead [vR 34 0] μ2 (fun μ4 => K μ4))) ∧ ((r3 = 0) → c_v G d YX12_blame [vR 34 0, vI 1, vI (μ2 34 0 4)] μ2 (fun μ5 => ((¬ (μ5 34 0 8) = 0) → K μ5) ∧ ((μ5 34 0 8 = 0) → c_v G d YX12_ahead [vR 34 0] μ5 (fun μ6 => K μ6))))))) :
    mW G X YX12_must μ 0 [some (vR 34 0), some (vI a1)] [] := by
  refine m_aload_n C dX12_must_0 rfl ?_
  refine f_callVv (As := []) (st := []) C dX12_must_1 ml_KilnBenchModel_235 rfl (by decide) rfl rfl rfl (Nat.le_of_ble_eq_true rfl) h (fun μ1 h => ?_)
  refine m_aload_n C dX12_must_4 rfl ?_
  refine m_iload_n C dX12_must_5 rfl ?_
  refine f_callVi (As := [vI a1]) (st := []) C dX12_must_6 ml_KilnBenchModel_238 rfl (by decide) rfl rfl rfl (Nat.le_of_ble_eq_true rfl) h (fun r3 μ2 h => ?_)
  refine m_if_ne (tgt := 21) C dX12_must_9 (by decide) (fun c => ?_) (fun c => ?_)
  · have h := h.1 c
    refine m_aload_n C dX12_must_21 rfl ?_
    refine f_getI C dX12_must_22 fl_KilnBenchModel_36 rfl (by decide) (by decide) ?_
    refine m_if_ne (tgt := 32) C dX12_must_25 (by decide) (fun c => ?_) (fun c => ?_)
    · have h := h.1 c
      exact f_vret C R rfl dX12_must_32 h
    · have h := h.2 c
      refine m_aload_n C dX12_must_28 rfl ?_
      refine f_callVv (As := []) (st := []) C dX12_must_29 ml_KilnBenchModel_241 rfl (by decide) rfl rfl rfl (Nat.le_of_ble_eq_true rfl) h (fun μ4 h => ?_)
      exact f_vret C R rfl dX12_must_32 h
  · have h := h.2 c
    refine m_aload_n C dX12_must_12 rfl ?_
    refine m_iconst C dX12_must_13 (by unfold in32; omega) ?_
    refine m_aload_n C dX12_must_14 rfl ?_
    refine f_getI C dX12_must_15 fl_KilnBenchModel_23 rfl (by decide) (by decide) ?_
    refine f_callVv (As := [vI 1, vI (μ2 34 0 4)]) (st := []) C dX12_must_18 ml_KilnBenchModel_224 rfl (by decide) rfl rfl rfl (Nat.le_of_ble_eq_true rfl) h (fun μ5 h => ?_)
    refine m_aload_n C dX12_must_21 rfl ?_
    refine f_getI C dX12_must_22 fl_KilnBenchModel_36 rfl (by decide) (by decide) ?_
    refine m_if_ne (tgt := 32) C dX12_must_25 (by decide) (fun c => ?_) (fun c => ?_)
    · have h := h.1 c
      exact f_vret C R rfl dX12_must_32 h
    · have h := h.2 c
      refine m_aload_n C dX12_must_28 rfl ?_
      refine f_callVv (As := []) (st := []) C dX12_must_29 ml_KilnBenchModel_241 rfl (by decide) rfl rfl rfl (Nat.le_of_ble_eq_true rfl) h (fun μ6 h => ?_)
      exact f_vret C R rfl dX12_must_32 h

set_option maxRecDepth 20000 in
theorem VX12_isOwn_0 {G : m_G} {X : m_X} {d : Nat} {K : Int → m_M → Prop} (C : mC G X YX12_isOwn (d + 1)) (R : r_i G X K) {μ : m_M} {a1 : Int}
    (h : ((l_cmp a1 426953501796 = 0) → K 1 μ) ∧ ((¬ l_cmp a1 426953501796 = 0) → ((l_cmp a1 1668047225 = 0) → K 1 μ) ∧ ((¬ l_cmp a1 1668047225 = 0) → ((l_cmp a1 1735551348 = 0) → K 1 μ) ∧ ((¬ l_cmp a1 1735551348 = 0) → ((l_cmp a1 1802071150 = 0) → K 1 μ) ∧ ((¬ l_cmp a1 1802071150 = 0) → ((¬ (l_cmp a1 1919905645) = 0) → ((l_cmp a1 127978976601458 = 0) → K 1 μ) ∧ ((¬ l_cmp a1 127978976601458 = 0) → ((l_cmp a1 109342911327091 = 0) → K 1 μ) ∧ ((¬ l_cmp a1 109342911327091 = 0) → ((l_cmp a1 126943821523827 = 0) → K 1 μ) ∧ ((¬ l_cmp a1 126943821523827 = 0) → ((l_cmp a1 422877228659 = 0) → K 1 μ) ∧ ((¬ l_cmp a1 422877228659 = 0) → ((¬ (l_cmp a1 1718969708) = 0) → ((l_cmp a1 1819238756 = 0) → K 1 μ) ∧ ((¬ l_cmp a1 1819238756 = 0) → ((l_cmp a1 2003398244 = 0) → K 1 μ) ∧ ((¬ l_cmp a1 2003398244 = 0) → ((l_cmp a1 1751474548 = 0) → K 1 μ) ∧ ((¬ l_cmp a1 1751474548 = 0) → ((l_cmp a1 2003133803 = 0) → K 1 μ) ∧ ((¬ l_cmp a1 2003133803 = 0) → ((¬ (l_cmp a1 482854658917) = 0) → ((l_cmp a1 491395114867 = 0) → K 1 μ) ∧ ((¬ l_cmp a1 491395114867 = 0) → ((l_cmp a1 1852137842 = 0) → K 1 μ) ∧ ((¬ l_cmp a1 1852137842 = 0) → ((l_cmp a1 444301145203 = 0) → K 1 μ) ∧ ((¬ l_cmp a1 444301145203 = 0) → ((l_cmp a1 1718971500 = 0) → K 1 μ) ∧ ((¬ l_cmp a1 1718971500 = 0) → ((¬ (l_cmp a1 26982) = 0) → ((l_cmp a1 28530 = 0) → K 1 μ) ∧ ((¬ l_cmp a1 28530 = 0) → ((l_cmp a1 6385252 = 0) → K 1 μ) ∧ ((¬ l_cmp a1 6385252 = 0) → ((l_cmp a1 7237492 = 0) → K 1 μ) ∧ ((¬ l_cmp a1 7237492 = 0) → ((l_cmp a1 6384748 = 0) → K 1 μ) ∧ ((¬ l_cmp a1 6384748 = 0) → ((¬ (l_cmp a1 7170414) = 0) → ((¬ (l_cmp a1 7168376) = 0) → K 0 μ) ∧ ((l_cmp a1 7168376 = 0) → K 1 μ)) ∧ ((l_cmp a1 7170414 = 0) → K 1 μ)))))) ∧ ((l_cmp a1 26982 = 0) → K 1 μ)))))) ∧ ((l_cmp a1 482854658917 = 0) → K 1 μ)))))) ∧ ((l_cmp a1 1718969708 = 0) → K 1 μ)))))) ∧ ((l_cmp a1 1919905645 = 0) → K 1 μ)))))) :
    mW G X YX12_isOwn μ 0 [some (vR 34 0), some (vJ a1), none] [] := by
  refine m_lload_n C dX12_isOwn_0 rfl ?_
  refine m_ldc2 (x := 426953501796) C dX12_isOwn_1 lc_KilnBenchModel_244 rfl ?_
  refine m_lcmp C dX12_isOwn_4 ?_
  refine m_if_eq (tgt := 40) C dX12_isOwn_5 (by decide) (fun c => ?_) (fun c => ?_)
  · have h := h.1 c
    refine m_iconst C dX12_isOwn_40 (by unfold in32; omega) ?_
    exact f_zret C R rfl dX12_isOwn_41 (by decide) h
  · have h := h.2 c
    refine m_lload_n C dX12_isOwn_8 rfl ?_
    refine m_ldc2 (x := 1668047225) C dX12_isOwn_9 lc_KilnBenchModel_246 rfl ?_
    refine m_lcmp C dX12_isOwn_12 ?_
    refine m_if_eq (tgt := 40) C dX12_isOwn_13 (by decide) (fun c => ?_) (fun c => ?_)
    · have h := h.1 c
      refine m_iconst C dX12_isOwn_40 (by unfold in32; omega) ?_
      exact f_zret C R rfl dX12_isOwn_41 (by decide) h
    · have h := h.2 c
      refine m_lload_n C dX12_isOwn_16 rfl ?_
      refine m_ldc2 (x := 1735551348) C dX12_isOwn_17 lc_KilnBenchModel_248 rfl ?_
      refine m_lcmp C dX12_isOwn_20 ?_
      refine m_if_eq (tgt := 40) C dX12_isOwn_21 (by decide) (fun c => ?_) (fun c => ?_)
      · have h := h.1 c
        refine m_iconst C dX12_isOwn_40 (by unfold in32; omega) ?_
        exact f_zret C R rfl dX12_isOwn_41 (by decide) h
      · have h := h.2 c
        refine m_lload_n C dX12_isOwn_24 rfl ?_
        refine m_ldc2 (x := 1802071150) C dX12_isOwn_25 lc_KilnBenchModel_250 rfl ?_
        refine m_lcmp C dX12_isOwn_28 ?_
        refine m_if_eq (tgt := 40) C dX12_isOwn_29 (by decide) (fun c => ?_) (fun c => ?_)
        · have h := h.1 c
          refine m_iconst C dX12_isOwn_40 (by unfold in32; omega) ?_
          exact f_zret C R rfl dX12_isOwn_41 (by decide) h
        · have h := h.2 c
          refine m_lload_n C dX12_isOwn_32 rfl ?_
          refine m_ldc2 (x := 1919905645) C dX12_isOwn_33 lc_KilnBenchModel_252 rfl ?_
          refine m_lcmp C dX12_isOwn_36 ?_
          refine m_if_ne (tgt := 42) C dX12_isOwn_37 (by decide) (fun c => ?_) (fun c => ?_)
          · have h := h.1 c
            refine m_lload_n C dX12_isOwn_42 rfl ?_
            refine m_ldc2 (x := 127978976601458) C dX12_isOwn_43 lc_KilnBenchModel_254 rfl ?_
            refine m_lcmp C dX12_isOwn_46 ?_
            refine m_if_eq (tgt := 82) C dX12_isOwn_47 (by decide) (fun c => ?_) (fun c => ?_)
            · have h := h.1 c
              refine m_iconst C dX12_isOwn_82 (by unfold in32; omega) ?_
              exact f_zret C R rfl dX12_isOwn_83 (by decide) h
            · have h := h.2 c
              refine m_lload_n C dX12_isOwn_50 rfl ?_
              refine m_ldc2 (x := 109342911327091) C dX12_isOwn_51 lc_KilnBenchModel_256 rfl ?_
              refine m_lcmp C dX12_isOwn_54 ?_
              refine m_if_eq (tgt := 82) C dX12_isOwn_55 (by decide) (fun c => ?_) (fun c => ?_)
              · have h := h.1 c
                refine m_iconst C dX12_isOwn_82 (by unfold in32; omega) ?_
                exact f_zret C R rfl dX12_isOwn_83 (by decide) h
              · have h := h.2 c
                refine m_lload_n C dX12_isOwn_58 rfl ?_
                refine m_ldc2 (x := 126943821523827) C dX12_isOwn_59 lc_KilnBenchModel_258 rfl ?_
                refine m_lcmp C dX12_isOwn_62 ?_
                refine m_if_eq (tgt := 82) C dX12_isOwn_63 (by decide) (fun c => ?_) (fun c => ?_)
                · have h := h.1 c
                  refine m_iconst C dX12_isOwn_82 (by unfold in32; omega) ?_
                  exact f_zret C R rfl dX12_isOwn_83 (by decide) h
                · have h := h.2 c
                  refine m_lload_n C dX12_isOwn_66 rfl ?_
                  refine m_ldc2 (x := 422877228659) C dX12_isOwn_67 lc_KilnBenchModel_260 rfl ?_
                  refine m_lcmp C dX12_isOwn_70 ?_
                  refine m_if_eq (tgt := 82) C dX12_isOwn_71 (by decide) (fun c => ?_) (fun c => ?_)
                  · have h := h.1 c
                    refine m_iconst C dX12_isOwn_82 (by unfold in32; omega) ?_
                    exact f_zret C R rfl dX12_isOwn_83 (by decide) h
                  · have h := h.2 c
                    refine m_lload_n C dX12_isOwn_74 rfl ?_
                    refine m_ldc2 (x := 1718969708) C dX12_isOwn_75 lc_KilnBenchModel_262 rfl ?_
                    refine m_lcmp C dX12_isOwn_78 ?_
                    refine m_if_ne (tgt := 84) C dX12_isOwn_79 (by decide) (fun c => ?_) (fun c => ?_)
                    · have h := h.1 c
                      refine m_lload_n C dX12_isOwn_84 rfl ?_
                      refine m_ldc2 (x := 1819238756) C dX12_isOwn_85 lc_KilnBenchModel_264 rfl ?_
                      refine m_lcmp C dX12_isOwn_88 ?_
                      refine m_if_eq (tgt := 124) C dX12_isOwn_89 (by decide) (fun c => ?_) (fun c => ?_)
                      · have h := h.1 c
                        refine m_iconst C dX12_isOwn_124 (by unfold in32; omega) ?_
                        exact f_zret C R rfl dX12_isOwn_125 (by decide) h
                      · have h := h.2 c
                        refine m_lload_n C dX12_isOwn_92 rfl ?_
                        refine m_ldc2 (x := 2003398244) C dX12_isOwn_93 lc_KilnBenchModel_266 rfl ?_
                        refine m_lcmp C dX12_isOwn_96 ?_
                        refine m_if_eq (tgt := 124) C dX12_isOwn_97 (by decide) (fun c => ?_) (fun c => ?_)
                        · have h := h.1 c
                          refine m_iconst C dX12_isOwn_124 (by unfold in32; omega) ?_
                          exact f_zret C R rfl dX12_isOwn_125 (by decide) h
                        · have h := h.2 c
                          refine m_lload_n C dX12_isOwn_100 rfl ?_
                          refine m_ldc2 (x := 1751474548) C dX12_isOwn_101 lc_KilnBenchModel_268 rfl ?_
                          refine m_lcmp C dX12_isOwn_104 ?_
                          refine m_if_eq (tgt := 124) C dX12_isOwn_105 (by decide) (fun c => ?_) (fun c => ?_)
                          · have h := h.1 c
                            refine m_iconst C dX12_isOwn_124 (by unfold in32; omega) ?_
                            exact f_zret C R rfl dX12_isOwn_125 (by decide) h
                          · have h := h.2 c
                            refine m_lload_n C dX12_isOwn_108 rfl ?_
                            refine m_ldc2 (x := 2003133803) C dX12_isOwn_109 lc_KilnBenchModel_270 rfl ?_
                            refine m_lcmp C dX12_isOwn_112 ?_
                            refine m_if_eq (tgt := 124) C dX12_isOwn_113 (by decide) (fun c => ?_) (fun c => ?_)
                            · have h := h.1 c
                              refine m_iconst C dX12_isOwn_124 (by unfold in32; omega) ?_
                              exact f_zret C R rfl dX12_isOwn_125 (by decide) h
                            · have h := h.2 c
                              refine m_lload_n C dX12_isOwn_116 rfl ?_
                              refine m_ldc2 (x := 482854658917) C dX12_isOwn_117 lc_KilnBenchModel_272 rfl ?_
                              refine m_lcmp C dX12_isOwn_120 ?_
                              refine m_if_ne (tgt := 126) C dX12_isOwn_121 (by decide) (fun c => ?_) (fun c => ?_)
                              · have h := h.1 c
                                refine m_lload_n C dX12_isOwn_126 rfl ?_
                                refine m_ldc2 (x := 491395114867) C dX12_isOwn_127 lc_KilnBenchModel_274 rfl ?_
                                refine m_lcmp C dX12_isOwn_130 ?_
                                refine m_if_eq (tgt := 166) C dX12_isOwn_131 (by decide) (fun c => ?_) (fun c => ?_)
                                · have h := h.1 c
                                  refine m_iconst C dX12_isOwn_166 (by unfold in32; omega) ?_
                                  exact f_zret C R rfl dX12_isOwn_167 (by decide) h
                                · have h := h.2 c
                                  refine m_lload_n C dX12_isOwn_134 rfl ?_
                                  refine m_ldc2 (x := 1852137842) C dX12_isOwn_135 lc_KilnBenchModel_276 rfl ?_
                                  refine m_lcmp C dX12_isOwn_138 ?_
                                  refine m_if_eq (tgt := 166) C dX12_isOwn_139 (by decide) (fun c => ?_) (fun c => ?_)
                                  · have h := h.1 c
                                    refine m_iconst C dX12_isOwn_166 (by unfold in32; omega) ?_
                                    exact f_zret C R rfl dX12_isOwn_167 (by decide) h
                                  · have h := h.2 c
                                    refine m_lload_n C dX12_isOwn_142 rfl ?_
                                    refine m_ldc2 (x := 444301145203) C dX12_isOwn_143 lc_KilnBenchModel_278 rfl ?_
                                    refine m_lcmp C dX12_isOwn_146 ?_
                                    refine m_if_eq (tgt := 166) C dX12_isOwn_147 (by decide) (fun c => ?_) (fun c => ?_)
                                    · have h := h.1 c
                                      refine m_iconst C dX12_isOwn_166 (by unfold in32; omega) ?_
                                      exact f_zret C R rfl dX12_isOwn_167 (by decide) h
                                    · have h := h.2 c
                                      refine m_lload_n C dX12_isOwn_150 rfl ?_
                                      refine m_ldc2 (x := 1718971500) C dX12_isOwn_151 lc_KilnBenchModel_280 rfl ?_
                                      refine m_lcmp C dX12_isOwn_154 ?_
                                      refine m_if_eq (tgt := 166) C dX12_isOwn_155 (by decide) (fun c => ?_) (fun c => ?_)
                                      · have h := h.1 c
                                        refine m_iconst C dX12_isOwn_166 (by unfold in32; omega) ?_
                                        exact f_zret C R rfl dX12_isOwn_167 (by decide) h
                                      · have h := h.2 c
                                        refine m_lload_n C dX12_isOwn_158 rfl ?_
                                        refine m_ldc2 (x := 26982) C dX12_isOwn_159 lc_KilnBenchModel_282 rfl ?_
                                        refine m_lcmp C dX12_isOwn_162 ?_
                                        refine m_if_ne (tgt := 168) C dX12_isOwn_163 (by decide) (fun c => ?_) (fun c => ?_)
                                        · have h := h.1 c
                                          refine m_lload_n C dX12_isOwn_168 rfl ?_
                                          refine m_ldc2 (x := 28530) C dX12_isOwn_169 lc_KilnBenchModel_284 rfl ?_
                                          refine m_lcmp C dX12_isOwn_172 ?_
                                          refine m_if_eq (tgt := 208) C dX12_isOwn_173 (by decide) (fun c => ?_) (fun c => ?_)
                                          · have h := h.1 c
                                            refine m_iconst C dX12_isOwn_208 (by unfold in32; omega) ?_
                                            exact f_zret C R rfl dX12_isOwn_209 (by decide) h
                                          · have h := h.2 c
                                            refine m_lload_n C dX12_isOwn_176 rfl ?_
                                            refine m_ldc2 (x := 6385252) C dX12_isOwn_177 lc_KilnBenchModel_286 rfl ?_
                                            refine m_lcmp C dX12_isOwn_180 ?_
                                            refine m_if_eq (tgt := 208) C dX12_isOwn_181 (by decide) (fun c => ?_) (fun c => ?_)
                                            · have h := h.1 c
                                              refine m_iconst C dX12_isOwn_208 (by unfold in32; omega) ?_
                                              exact f_zret C R rfl dX12_isOwn_209 (by decide) h
                                            · have h := h.2 c
                                              refine m_lload_n C dX12_isOwn_184 rfl ?_
                                              refine m_ldc2 (x := 7237492) C dX12_isOwn_185 lc_KilnBenchModel_288 rfl ?_
                                              refine m_lcmp C dX12_isOwn_188 ?_
                                              refine m_if_eq (tgt := 208) C dX12_isOwn_189 (by decide) (fun c => ?_) (fun c => ?_)
                                              · have h := h.1 c
                                                refine m_iconst C dX12_isOwn_208 (by unfold in32; omega) ?_
                                                exact f_zret C R rfl dX12_isOwn_209 (by decide) h
                                              · have h := h.2 c
                                                refine m_lload_n C dX12_isOwn_192 rfl ?_
                                                refine m_ldc2 (x := 6384748) C dX12_isOwn_193 lc_KilnBenchModel_290 rfl ?_
                                                refine m_lcmp C dX12_isOwn_196 ?_
                                                refine m_if_eq (tgt := 208) C dX12_isOwn_197 (by decide) (fun c => ?_) (fun c => ?_)
                                                · have h := h.1 c
                                                  refine m_iconst C dX12_isOwn_208 (by unfold in32; omega) ?_
                                                  exact f_zret C R rfl dX12_isOwn_209 (by decide) h
                                                · have h := h.2 c
                                                  refine m_lload_n C dX12_isOwn_200 rfl ?_
                                                  refine m_ldc2 (x := 7170414) C dX12_isOwn_201 lc_KilnBenchModel_292 rfl ?_
                                                  refine m_lcmp C dX12_isOwn_204 ?_
                                                  refine m_if_ne (tgt := 210) C dX12_isOwn_205 (by decide) (fun c => ?_) (fun c => ?_)
                                                  · have h := h.1 c
                                                    refine m_lload_n C dX12_isOwn_210 rfl ?_
                                                    refine m_ldc2 (x := 7168376) C dX12_isOwn_211 lc_KilnBenchModel_294 rfl ?_
                                                    refine m_lcmp C dX12_isOwn_214 ?_
                                                    refine m_if_ne (tgt := 220) C dX12_isOwn_215 (by decide) (fun c => ?_) (fun c => ?_)
                                                    · have h := h.1 c
                                                      refine m_iconst C dX12_isOwn_220 (by unfold in32; omega) ?_
                                                      exact f_zret C R rfl dX12_isOwn_221 (by decide) h
                                                    · have h := h.2 c
                                                      refine m_iconst C dX12_isOwn_218 (by unfold in32; omega) ?_
                                                      exact f_zret C R rfl dX12_isOwn_219 (by decide) h
                                                  · have h := h.2 c
                                                    refine m_iconst C dX12_isOwn_208 (by unfold in32; omega) ?_
                                                    exact f_zret C R rfl dX12_isOwn_209 (by decide) h
                                        · have h := h.2 c
                                          refine m_iconst C dX12_isOwn_166 (by unfold in32; omega) ?_
                                          exact f_zret C R rfl dX12_isOwn_167 (by decide) h
                              · have h := h.2 c
                                refine m_iconst C dX12_isOwn_124 (by unfold in32; omega) ?_
                                exact f_zret C R rfl dX12_isOwn_125 (by decide) h
                    · have h := h.2 c
                      refine m_iconst C dX12_isOwn_82 (by unfold in32; omega) ?_
                      exact f_zret C R rfl dX12_isOwn_83 (by decide) h
          · have h := h.2 c
            refine m_iconst C dX12_isOwn_40 (by unfold in32; omega) ?_
            exact f_zret C R rfl dX12_isOwn_41 (by decide) h

set_option maxRecDepth 20000 in
theorem VX12_isNamed_0 {G : m_G} {X : m_X} {d : Nat} {K : Int → m_M → Prop} (C : mC G X YX12_isNamed (d + 1)) (R : r_i G X K) {μ : m_M} {a1 : Int}
    (h : mW G X YX12_isNamed μ 2 [some (vR 34 0), some (vJ a1), none, some (vI 0)] []) :
    mW G X YX12_isNamed μ 0 [some (vR 34 0), some (vJ a1), none, none] [] := by
  refine m_iconst C dX12_isNamed_0 (by unfold in32; omega) ?_
  refine o_istore_n [some (vR 34 0), some (vJ a1), none, some (vI 0)] C dX12_isNamed_1 (by decide) rfl ?_
  exact h

set_option maxRecDepth 20000 in
theorem VX12_isNamed_2 {G : m_G} {X : m_X} {d : Nat} {K : Int → m_M → Prop} (C : mC G X YX12_isNamed (d + 1)) (R : r_i G X K) {μ : m_M} {a1 : Int} {l3 : Int}
    (h : (0 ≤ μ 34 0 29 ∧ μ 34 0 29 < 2) ∧ ((μ 34 15 (μ 34 0 29).toNat ≤ l3) → mW G X YX12_isNamed μ 44 [some (vR 34 0), some (vJ a1), none, some (vI 0)] []) ∧ ((¬ μ 34 15 (μ 34 0 29).toNat ≤ l3) → (0 ≤ w32 ((w32 (8 * (μ 34 0 29))) + l3) ∧ w32 ((w32 (8 * (μ 34 0 29))) + l3) < 16) ∧ ((¬ (l_cmp (μ 34 27 (w32 ((w32 (8 * (μ 34 0 29))) + l3)).toNat) a1) = 0) → ∀ x2 : Int, x2 = w32 (l3 + 1) → mW G X YX12_isNamed μ 2 [some (vR 34 0), some (vJ a1), none, some (vI x2)] []) ∧ ((l_cmp (μ 34 27 (w32 ((w32 (8 * (μ 34 0 29))) + l3)).toNat) a1 = 0) → K 1 μ))) :
    mW G X YX12_isNamed μ 2 [some (vR 34 0), some (vJ a1), none, some (vI l3)] [] := by
  refine m_iload_n C dX12_isNamed_2 rfl ?_
  refine m_aload_n C dX12_isNamed_3 rfl ?_
  refine f_getA C dX12_isNamed_4 fl_KilnBenchModel_54 rfl (by decide) (by decide) (by decide) (by decide) ?_
  refine m_aload_n C dX12_isNamed_7 rfl ?_
  refine f_getI C dX12_isNamed_8 fl_KilnBenchModel_100 rfl (by decide) (by decide) ?_
  obtain ⟨hb, h⟩ := h
  refine f_iald C dX12_isNamed_11 (m_arO (a := 0) (len := 2) rfl rfl) (by decide) hb ?_
  refine m_icmp_ge (tgt := 42) C dX12_isNamed_12 (by decide) (fun c => ?_) (fun c => ?_)
  · have h := h.1 c
    refine m_iconst C dX12_isNamed_42 (by unfold in32; omega) ?_
    refine o_istore_n [some (vR 34 0), some (vJ a1), none, some (vI 0)] C dX12_isNamed_43 (by decide) rfl ?_
    exact h
  · have h := h.2 c
    refine m_aload_n C dX12_isNamed_15 rfl ?_
    refine f_getA C dX12_isNamed_16 fl_KilnBenchModel_90 rfl (by decide) (by decide) (by decide) (by decide) ?_
    refine m_bipush C dX12_isNamed_19 (by omega) ?_
    refine m_aload_n C dX12_isNamed_21 rfl ?_
    refine f_getI C dX12_isNamed_22 fl_KilnBenchModel_100 rfl (by decide) (by decide) ?_
    refine m_imul C dX12_isNamed_25 ?_
    refine m_iload_n C dX12_isNamed_26 rfl ?_
    refine m_iadd C dX12_isNamed_27 ?_
    obtain ⟨hb, h⟩ := h
    refine f_lald C dX12_isNamed_28 (m_arO (a := 3) (len := 16) rfl rfl) (by decide) hb ?_
    refine m_lload_n C dX12_isNamed_29 rfl ?_
    refine m_lcmp C dX12_isNamed_30 ?_
    refine m_if_ne (tgt := 36) C dX12_isNamed_31 (by decide) (fun c => ?_) (fun c => ?_)
    · have h := h.1 c
      refine n_iinc (fun x2 => [some (vR 34 0), some (vJ a1), none, some (vI x2)]) C dX12_isNamed_36 rfl (by decide) (fun _ => rfl) (fun x2 ex2 => ?_)
      have h := h x2 ex2
      refine m_goto (tgt := 2) C dX12_isNamed_39 (by decide) ?_
      exact h
    · have h := h.2 c
      refine m_iconst C dX12_isNamed_34 (by unfold in32; omega) ?_
      exact f_zret C R rfl dX12_isNamed_35 (by decide) h

set_option maxRecDepth 20000 in
theorem VX12_isNamed_44 {G : m_G} {X : m_X} {d : Nat} {K : Int → m_M → Prop} (C : mC G X YX12_isNamed (d + 1)) (R : r_i G X K) {μ : m_M} {a1 : Int} {l3 : Int}
    (h : (0 ≤ μ 34 0 29 ∧ μ 34 0 29 < 2) ∧ ((μ 34 18 (μ 34 0 29).toNat ≤ l3) → K 0 μ) ∧ ((¬ μ 34 18 (μ 34 0 29).toNat ≤ l3) → (0 ≤ w32 ((w32 (3 * (μ 34 0 29))) + l3) ∧ w32 ((w32 (3 * (μ 34 0 29))) + l3) < 6) ∧ ((¬ (l_cmp (μ 34 28 (w32 ((w32 (3 * (μ 34 0 29))) + l3)).toNat) a1) = 0) → ∀ x1 : Int, x1 = w32 (l3 + 1) → mW G X YX12_isNamed μ 44 [some (vR 34 0), some (vJ a1), none, some (vI x1)] []) ∧ ((l_cmp (μ 34 28 (w32 ((w32 (3 * (μ 34 0 29))) + l3)).toNat) a1 = 0) → K 1 μ))) :
    mW G X YX12_isNamed μ 44 [some (vR 34 0), some (vJ a1), none, some (vI l3)] [] := by
  refine m_iload_n C dX12_isNamed_44 rfl ?_
  refine m_aload_n C dX12_isNamed_45 rfl ?_
  refine f_getA C dX12_isNamed_46 fl_KilnBenchModel_63 rfl (by decide) (by decide) (by decide) (by decide) ?_
  refine m_aload_n C dX12_isNamed_49 rfl ?_
  refine f_getI C dX12_isNamed_50 fl_KilnBenchModel_100 rfl (by decide) (by decide) ?_
  obtain ⟨hb, h⟩ := h
  refine f_iald C dX12_isNamed_53 (m_arO (a := 0) (len := 2) rfl rfl) (by decide) hb ?_
  refine m_icmp_ge (tgt := 83) C dX12_isNamed_54 (by decide) (fun c => ?_) (fun c => ?_)
  · have h := h.1 c
    refine m_iconst C dX12_isNamed_83 (by unfold in32; omega) ?_
    exact f_zret C R rfl dX12_isNamed_84 (by decide) h
  · have h := h.2 c
    refine m_aload_n C dX12_isNamed_57 rfl ?_
    refine f_getA C dX12_isNamed_58 fl_KilnBenchModel_94 rfl (by decide) (by decide) (by decide) (by decide) ?_
    refine m_iconst C dX12_isNamed_61 (by unfold in32; omega) ?_
    refine m_aload_n C dX12_isNamed_62 rfl ?_
    refine f_getI C dX12_isNamed_63 fl_KilnBenchModel_100 rfl (by decide) (by decide) ?_
    refine m_imul C dX12_isNamed_66 ?_
    refine m_iload_n C dX12_isNamed_67 rfl ?_
    refine m_iadd C dX12_isNamed_68 ?_
    obtain ⟨hb, h⟩ := h
    refine f_lald C dX12_isNamed_69 (m_arO (a := 3) (len := 6) rfl rfl) (by decide) hb ?_
    refine m_lload_n C dX12_isNamed_70 rfl ?_
    refine m_lcmp C dX12_isNamed_71 ?_
    refine m_if_ne (tgt := 77) C dX12_isNamed_72 (by decide) (fun c => ?_) (fun c => ?_)
    · have h := h.1 c
      refine n_iinc (fun x1 => [some (vR 34 0), some (vJ a1), none, some (vI x1)]) C dX12_isNamed_77 rfl (by decide) (fun _ => rfl) (fun x1 ex1 => ?_)
      have h := h x1 ex1
      refine m_goto (tgt := 44) C dX12_isNamed_80 (by decide) ?_
      exact h
    · have h := h.2 c
      refine m_iconst C dX12_isNamed_75 (by unfold in32; omega) ?_
      exact f_zret C R rfl dX12_isNamed_76 (by decide) h

set_option maxRecDepth 20000 in
theorem VX12_number_0 {G : m_G} {X : m_X} {d : Nat} {K : Int → m_M → Prop} (C : mC G X YX12_number (d + 1)) (R : r_i G X K) {μ : m_M} {a1 : Int} {a2 : Int}
    (h : c_v G d YX12_lex [vR 34 0] μ (fun μ1 => ((μ1 34 0 8 ≤ 0) → ((μ1 34 0 3 = 2) → mW G X YX12_number μ1 30 [some (vR 34 0), some (vI a1), some (vI a2), none] []) ∧ ((¬ μ1 34 0 3 = 2) → c_v G d YX12_blame [vR 34 0, vI 1, vI (μ1 34 0 4)] μ1 (fun μ2 => mW G X YX12_number μ2 30 [some (vR 34 0), some (vI a1), some (vI a2), none] []))) ∧ ((¬ μ1 34 0 8 ≤ 0) → K 0 μ1))) :
    mW G X YX12_number μ 0 [some (vR 34 0), some (vI a1), some (vI a2), none] [] := by
  refine m_aload_n C dX12_number_0 rfl ?_
  refine f_callVv (As := []) (st := []) C dX12_number_1 ml_KilnBenchModel_235 rfl (by decide) rfl rfl rfl (Nat.le_of_ble_eq_true rfl) h (fun μ1 h => ?_)
  refine m_aload_n C dX12_number_4 rfl ?_
  refine f_getI C dX12_number_5 fl_KilnBenchModel_36 rfl (by decide) (by decide) ?_
  refine m_if_le (tgt := 13) C dX12_number_8 (by decide) (fun c => ?_) (fun c => ?_)
  · have h := h.1 c
    refine m_aload_n C dX12_number_13 rfl ?_
    refine f_getI C dX12_number_14 fl_KilnBenchModel_20 rfl (by decide) (by decide) ?_
    refine m_iconst C dX12_number_17 (by unfold in32; omega) ?_
    refine m_icmp_eq (tgt := 30) C dX12_number_18 (by decide) (fun c => ?_) (fun c => ?_)
    · have h := h.1 c
      exact h
    · have h := h.2 c
      refine m_aload_n C dX12_number_21 rfl ?_
      refine m_iconst C dX12_number_22 (by unfold in32; omega) ?_
      refine m_aload_n C dX12_number_23 rfl ?_
      refine f_getI C dX12_number_24 fl_KilnBenchModel_23 rfl (by decide) (by decide) ?_
      refine f_callVv (As := [vI 1, vI (μ1 34 0 4)]) (st := []) C dX12_number_27 ml_KilnBenchModel_224 rfl (by decide) rfl rfl rfl (Nat.le_of_ble_eq_true rfl) h (fun μ2 h => ?_)
      exact h
  · have h := h.2 c
    refine m_iconst C dX12_number_11 (by unfold in32; omega) ?_
    exact f_iret C R rfl dX12_number_12 h

set_option maxRecDepth 20000 in
theorem VX12_number_30 {G : m_G} {X : m_X} {d : Nat} {K : Int → m_M → Prop} (C : mC G X YX12_number (d + 1)) (R : r_i G X K) {μ : m_M} {a1 : Int} {a2 : Int}
    (h : ((¬ (μ 34 0 8) = 0) → ∀ x1 : Int, x1 = μ 34 0 6 → ((¬ (μ 34 0 8) = 0) → K x1 μ) ∧ ((μ 34 0 8 = 0) → c_v G d YX12_ahead [vR 34 0] μ (fun μ2 => K x1 μ2))) ∧ ((μ 34 0 8 = 0) → c_i G d YX12_is [vI (μ 34 0 6), vI a1, vI a2] μ (fun r4 μ3 => ((¬ r4 = 0) → ∀ x5 : Int, x5 = μ3 34 0 6 → ((¬ (μ3 34 0 8) = 0) → K x5 μ3) ∧ ((μ3 34 0 8 = 0) → c_v G d YX12_ahead [vR 34 0] μ3 (fun μ6 => K x5 μ6))) ∧ ((r4 = 0) → c_v G d YX12_blame [vR 34 0, vI 4, vI (μ3 34 0 4)] μ3 (fun μ7 => ∀ x8 : Int, x8 = μ7 34 0 6 → ((¬ (μ7 34 0 8) = 0) → K x8 μ7) ∧ ((μ7 34 0 8 = 0) → c_v G d YX12_ahead [vR 34 0] μ7 (fun μ9 => K x8 μ9))))))) :
    mW G X YX12_number μ 30 [some (vR 34 0), some (vI a1), some (vI a2), none] [] := by
  refine m_aload_n C dX12_number_30 rfl ?_
  refine f_getI C dX12_number_31 fl_KilnBenchModel_36 rfl (by decide) (by decide) ?_
  refine m_if_ne (tgt := 58) C dX12_number_34 (by decide) (fun c => ?_) (fun c => ?_)
  · have h := h.1 c
    refine m_aload_n C dX12_number_58 rfl ?_
    refine f_getI C dX12_number_59 fl_KilnBenchModel_29 rfl (by decide) (by decide) ?_
    refine n_istore_n (fun x1 => [some (vR 34 0), some (vI a1), some (vI a2), some (vI x1)]) C dX12_number_62 (by decide) (fun _ => rfl) (fun x1 ex1 => ?_)
    have h := h x1 ex1
    refine m_aload_n C dX12_number_63 rfl ?_
    refine f_getI C dX12_number_64 fl_KilnBenchModel_36 rfl (by decide) (by decide) ?_
    refine m_if_ne (tgt := 74) C dX12_number_67 (by decide) (fun c => ?_) (fun c => ?_)
    · have h := h.1 c
      refine m_iload_n C dX12_number_74 rfl ?_
      exact f_iret C R rfl dX12_number_75 h
    · have h := h.2 c
      refine m_aload_n C dX12_number_70 rfl ?_
      refine f_callVv (As := []) (st := []) C dX12_number_71 ml_KilnBenchModel_241 rfl (by decide) rfl rfl rfl (Nat.le_of_ble_eq_true rfl) h (fun μ2 h => ?_)
      refine m_iload_n C dX12_number_74 rfl ?_
      exact f_iret C R rfl dX12_number_75 h
  · have h := h.2 c
    refine m_aload_n C dX12_number_37 rfl ?_
    refine f_getI C dX12_number_38 fl_KilnBenchModel_29 rfl (by decide) (by decide) ?_
    refine m_iload_n C dX12_number_41 rfl ?_
    refine m_iload_n C dX12_number_42 rfl ?_
    refine f_callSi (As := [vI (μ 34 0 6), vI a1, vI a2]) (st := []) C dX12_number_43 ml_KilnBenchModel_296 rfl rfl (Nat.le_of_ble_eq_true rfl) h (fun r4 μ3 h => ?_)
    refine m_if_ne (tgt := 58) C dX12_number_46 (by decide) (fun c => ?_) (fun c => ?_)
    · have h := h.1 c
      refine m_aload_n C dX12_number_58 rfl ?_
      refine f_getI C dX12_number_59 fl_KilnBenchModel_29 rfl (by decide) (by decide) ?_
      refine n_istore_n (fun x5 => [some (vR 34 0), some (vI a1), some (vI a2), some (vI x5)]) C dX12_number_62 (by decide) (fun _ => rfl) (fun x5 ex5 => ?_)
      have h := h x5 ex5
      refine m_aload_n C dX12_number_63 rfl ?_
      refine f_getI C dX12_number_64 fl_KilnBenchModel_36 rfl (by decide) (by decide) ?_
      refine m_if_ne (tgt := 74) C dX12_number_67 (by decide) (fun c => ?_) (fun c => ?_)
      · have h := h.1 c
        refine m_iload_n C dX12_number_74 rfl ?_
        exact f_iret C R rfl dX12_number_75 h
      · have h := h.2 c
        refine m_aload_n C dX12_number_70 rfl ?_
        refine f_callVv (As := []) (st := []) C dX12_number_71 ml_KilnBenchModel_241 rfl (by decide) rfl rfl rfl (Nat.le_of_ble_eq_true rfl) h (fun μ6 h => ?_)
        refine m_iload_n C dX12_number_74 rfl ?_
        exact f_iret C R rfl dX12_number_75 h
    · have h := h.2 c
      refine m_aload_n C dX12_number_49 rfl ?_
      refine m_iconst C dX12_number_50 (by unfold in32; omega) ?_
      refine m_aload_n C dX12_number_51 rfl ?_
      refine f_getI C dX12_number_52 fl_KilnBenchModel_23 rfl (by decide) (by decide) ?_
      refine f_callVv (As := [vI 4, vI (μ3 34 0 4)]) (st := []) C dX12_number_55 ml_KilnBenchModel_224 rfl (by decide) rfl rfl rfl (Nat.le_of_ble_eq_true rfl) h (fun μ7 h => ?_)
      refine m_aload_n C dX12_number_58 rfl ?_
      refine f_getI C dX12_number_59 fl_KilnBenchModel_29 rfl (by decide) (by decide) ?_
      refine n_istore_n (fun x8 => [some (vR 34 0), some (vI a1), some (vI a2), some (vI x8)]) C dX12_number_62 (by decide) (fun _ => rfl) (fun x8 ex8 => ?_)
      have h := h x8 ex8
      refine m_aload_n C dX12_number_63 rfl ?_
      refine f_getI C dX12_number_64 fl_KilnBenchModel_36 rfl (by decide) (by decide) ?_
      refine m_if_ne (tgt := 74) C dX12_number_67 (by decide) (fun c => ?_) (fun c => ?_)
      · have h := h.1 c
        refine m_iload_n C dX12_number_74 rfl ?_
        exact f_iret C R rfl dX12_number_75 h
      · have h := h.2 c
        refine m_aload_n C dX12_number_70 rfl ?_
        refine f_callVv (As := []) (st := []) C dX12_number_71 ml_KilnBenchModel_241 rfl (by decide) rfl rfl rfl (Nat.le_of_ble_eq_true rfl) h (fun μ9 h => ?_)
        refine m_iload_n C dX12_number_74 rfl ?_
        exact f_iret C R rfl dX12_number_75 h

set_option maxRecDepth 20000 in
theorem VX12_add_0 {G : m_G} {X : m_X} {d : Nat} {K : m_M → Prop} (C : mC G X YX12_add (d + 1)) (R : r_v G X K) {μ : m_M} {a1 : Int} {a2 : Int}
    (h : (0 ≤ w32 ((w32 (1600 * (μ 34 0 29))) + (μ 34 0 28)) ∧ w32 ((w32 (1600 * (μ 34 0 29))) + (μ 34 0 28)) < 3200) ∧ ∀ μ1 : m_M, μ1 = m_up μ 34 25 (w32 ((w32 (1600 * (μ 34 0 29))) + (μ 34 0 28))).toNat a1 → (0 ≤ w32 ((w32 (1600 * (μ1 34 0 29))) + (μ1 34 0 28)) ∧ w32 ((w32 (1600 * (μ1 34 0 29))) + (μ1 34 0 28)) < 3200) ∧ ∀ μ2 : m_M, μ2 = m_up μ1 34 26 (w32 ((w32 (1600 * (μ1 34 0 29))) + (μ1 34 0 28))).toNat a2 → ∀ μ3 : m_M, μ3 = m_up μ2 34 0 28 (w32 ((μ2 34 0 28) + 1)) → K μ3) :
    mW G X YX12_add μ 0 [some (vR 34 0), some (vI a1), some (vI a2)] [] := by
  refine m_aload_n C dX12_add_0 rfl ?_
  refine f_getA C dX12_add_1 fl_KilnBenchModel_84 rfl (by decide) (by decide) (by decide) (by decide) ?_
  refine m_sipush C dX12_add_4 (by omega) ?_
  refine m_aload_n C dX12_add_7 rfl ?_
  refine f_getI C dX12_add_8 fl_KilnBenchModel_100 rfl (by decide) (by decide) ?_
  refine m_imul C dX12_add_11 ?_
  refine m_aload_n C dX12_add_12 rfl ?_
  refine f_getI C dX12_add_13 fl_KilnBenchModel_97 rfl (by decide) (by decide) ?_
  refine m_iadd C dX12_add_16 ?_
  refine m_iload_n C dX12_add_17 rfl ?_
  obtain ⟨hb, h⟩ := h
  refine f_iast C dX12_add_18 (m_arO (a := 0) (len := 3200) rfl rfl) (by decide) hb ?_
  refine n_mem (fun μ1 eμ1 => ?_)
  have h := h μ1 eμ1
  refine m_aload_n C dX12_add_19 rfl ?_
  refine f_getA C dX12_add_20 fl_KilnBenchModel_87 rfl (by decide) (by decide) (by decide) (by decide) ?_
  refine m_sipush C dX12_add_23 (by omega) ?_
  refine m_aload_n C dX12_add_26 rfl ?_
  refine f_getI C dX12_add_27 fl_KilnBenchModel_100 rfl (by decide) (by decide) ?_
  refine m_imul C dX12_add_30 ?_
  refine m_aload_n C dX12_add_31 rfl ?_
  refine f_getI C dX12_add_32 fl_KilnBenchModel_97 rfl (by decide) (by decide) ?_
  refine m_iadd C dX12_add_35 ?_
  refine m_iload_n C dX12_add_36 rfl ?_
  obtain ⟨hb, h⟩ := h
  refine f_iast C dX12_add_37 (m_arO (a := 0) (len := 3200) rfl rfl) (by decide) hb ?_
  refine n_mem (fun μ2 eμ2 => ?_)
  have h := h μ2 eμ2
  refine m_aload_n C dX12_add_38 rfl ?_
  refine m_dup C dX12_add_39 rfl ?_
  refine f_getI C dX12_add_40 fl_KilnBenchModel_97 rfl (by decide) (by decide) ?_
  refine m_iconst C dX12_add_43 (by unfold in32; omega) ?_
  refine m_iadd C dX12_add_44 ?_
  refine f_putI C dX12_add_45 fl_KilnBenchModel_97 rfl (by decide) (by decide) (by decide) ?_
  refine n_mem (fun μ3 eμ3 => ?_)
  have h := h μ3 eμ3
  exact f_vret C R rfl dX12_add_48 h

set_option maxRecDepth 20000 in
theorem VX12_isOf_0 {G : m_G} {X : m_X} {d : Nat} {K : Int → m_M → Prop} (C : mC G X YX12_isOf (d + 1)) (R : r_i G X K) {μ : m_M} {a1 : Int}
    (h : ((5 < a1) → ((¬ a1 = 6) → ((8 < a1) → ((¬ (μ 34 0 30) = 3) → K 0 μ) ∧ ((μ 34 0 30 = 3) → K 1 μ)) ∧ ((¬ 8 < a1) → ((¬ (μ 34 0 30) = 2) → K 0 μ) ∧ ((μ 34 0 30 = 2) → K 1 μ))) ∧ ((a1 = 6) → ((¬ (μ 34 0 30) = 1) → K 0 μ) ∧ ((μ 34 0 30 = 1) → K 1 μ))) ∧ ((¬ 5 < a1) → ((μ 34 0 30 = 0) → K 1 μ) ∧ ((¬ μ 34 0 30 = 0) → ((¬ (μ 34 0 30) = 1) → K 0 μ) ∧ ((μ 34 0 30 = 1) → K 1 μ)))) :
    mW G X YX12_isOf μ 0 [some (vR 34 0), some (vI a1)] [] := by
  refine m_iload_n C dX12_isOf_0 rfl ?_
  refine m_iconst C dX12_isOf_1 (by unfold in32; omega) ?_
  refine m_icmp_gt (tgt := 28) C dX12_isOf_2 (by decide) (fun c => ?_) (fun c => ?_)
  · have h := h.1 c
    refine m_iload_n C dX12_isOf_28 rfl ?_
    refine m_bipush C dX12_isOf_29 (by omega) ?_
    refine m_icmp_ne (tgt := 50) C dX12_isOf_31 (by decide) (fun c => ?_) (fun c => ?_)
    · have h := h.1 c
      refine m_iload_n C dX12_isOf_50 rfl ?_
      refine m_bipush C dX12_isOf_51 (by omega) ?_
      refine m_icmp_gt (tgt := 72) C dX12_isOf_53 (by decide) (fun c => ?_) (fun c => ?_)
      · have h := h.1 c
        refine m_aload_n C dX12_isOf_72 rfl ?_
        refine f_getI C dX12_isOf_73 fl_KilnBenchModel_103 rfl (by decide) (by decide) ?_
        refine m_iconst C dX12_isOf_76 (by unfold in32; omega) ?_
        refine m_icmp_ne (tgt := 84) C dX12_isOf_77 (by decide) (fun c => ?_) (fun c => ?_)
        · have h := h.1 c
          refine m_iconst C dX12_isOf_84 (by unfold in32; omega) ?_
          exact f_zret C R rfl dX12_isOf_85 (by decide) h
        · have h := h.2 c
          refine m_iconst C dX12_isOf_80 (by unfold in32; omega) ?_
          refine m_goto (tgt := 85) C dX12_isOf_81 (by decide) ?_
          exact f_zret C R rfl dX12_isOf_85 (by decide) h
      · have h := h.2 c
        refine m_aload_n C dX12_isOf_56 rfl ?_
        refine f_getI C dX12_isOf_57 fl_KilnBenchModel_103 rfl (by decide) (by decide) ?_
        refine m_iconst C dX12_isOf_60 (by unfold in32; omega) ?_
        refine m_icmp_ne (tgt := 68) C dX12_isOf_61 (by decide) (fun c => ?_) (fun c => ?_)
        · have h := h.1 c
          refine m_iconst C dX12_isOf_68 (by unfold in32; omega) ?_
          refine m_goto (tgt := 85) C dX12_isOf_69 (by decide) ?_
          exact f_zret C R rfl dX12_isOf_85 (by decide) h
        · have h := h.2 c
          refine m_iconst C dX12_isOf_64 (by unfold in32; omega) ?_
          refine m_goto (tgt := 85) C dX12_isOf_65 (by decide) ?_
          exact f_zret C R rfl dX12_isOf_85 (by decide) h
    · have h := h.2 c
      refine m_aload_n C dX12_isOf_34 rfl ?_
      refine f_getI C dX12_isOf_35 fl_KilnBenchModel_103 rfl (by decide) (by decide) ?_
      refine m_iconst C dX12_isOf_38 (by unfold in32; omega) ?_
      refine m_icmp_ne (tgt := 46) C dX12_isOf_39 (by decide) (fun c => ?_) (fun c => ?_)
      · have h := h.1 c
        refine m_iconst C dX12_isOf_46 (by unfold in32; omega) ?_
        refine m_goto (tgt := 85) C dX12_isOf_47 (by decide) ?_
        exact f_zret C R rfl dX12_isOf_85 (by decide) h
      · have h := h.2 c
        refine m_iconst C dX12_isOf_42 (by unfold in32; omega) ?_
        refine m_goto (tgt := 85) C dX12_isOf_43 (by decide) ?_
        exact f_zret C R rfl dX12_isOf_85 (by decide) h
  · have h := h.2 c
    refine m_aload_n C dX12_isOf_5 rfl ?_
    refine f_getI C dX12_isOf_6 fl_KilnBenchModel_103 rfl (by decide) (by decide) ?_
    refine m_if_eq (tgt := 20) C dX12_isOf_9 (by decide) (fun c => ?_) (fun c => ?_)
    · have h := h.1 c
      refine m_iconst C dX12_isOf_20 (by unfold in32; omega) ?_
      refine m_goto (tgt := 85) C dX12_isOf_21 (by decide) ?_
      exact f_zret C R rfl dX12_isOf_85 (by decide) h
    · have h := h.2 c
      refine m_aload_n C dX12_isOf_12 rfl ?_
      refine f_getI C dX12_isOf_13 fl_KilnBenchModel_103 rfl (by decide) (by decide) ?_
      refine m_iconst C dX12_isOf_16 (by unfold in32; omega) ?_
      refine m_icmp_ne (tgt := 24) C dX12_isOf_17 (by decide) (fun c => ?_) (fun c => ?_)
      · have h := h.1 c
        refine m_iconst C dX12_isOf_24 (by unfold in32; omega) ?_
        refine m_goto (tgt := 85) C dX12_isOf_25 (by decide) ?_
        exact f_zret C R rfl dX12_isOf_85 (by decide) h
      · have h := h.2 c
        refine m_iconst C dX12_isOf_20 (by unfold in32; omega) ?_
        refine m_goto (tgt := 85) C dX12_isOf_21 (by decide) ?_
        exact f_zret C R rfl dX12_isOf_85 (by decide) h

set_option maxRecDepth 20000 in
theorem VX12_rank_0 {G : m_G} {X : m_X} {d : Nat} {K : Int → m_M → Prop} (C : mC G X YX12_rank (d + 1)) (R : r_i G X K) {μ : m_M} {a1 : Int}
    (h : ((¬ a1 = 42) → ((¬ a1 = 41) → ((¬ a1 = 43) → ((a1 = 38) → K 4 μ) ∧ ((¬ a1 = 38) → ((a1 = 39) → K 4 μ) ∧ ((¬ a1 = 39) → ((¬ a1 = 40) → ((a1 = 31) → K 5 μ) ∧ ((¬ a1 = 31) → ((¬ a1 = 32) → K 6 μ) ∧ ((a1 = 32) → K 5 μ))) ∧ ((a1 = 40) → K 4 μ)))) ∧ ((a1 = 43) → K 3 μ)) ∧ ((a1 = 41) → K 2 μ)) ∧ ((a1 = 42) → K 1 μ)) :
    mW G X YX12_rank μ 0 [some (vI a1)] [] := by
  refine m_iload_n C dX12_rank_0 rfl ?_
  refine m_bipush C dX12_rank_1 (by omega) ?_
  refine m_icmp_ne (tgt := 10) C dX12_rank_3 (by decide) (fun c => ?_) (fun c => ?_)
  · have h := h.1 c
    refine m_iload_n C dX12_rank_10 rfl ?_
    refine m_bipush C dX12_rank_11 (by omega) ?_
    refine m_icmp_ne (tgt := 20) C dX12_rank_13 (by decide) (fun c => ?_) (fun c => ?_)
    · have h := h.1 c
      refine m_iload_n C dX12_rank_20 rfl ?_
      refine m_bipush C dX12_rank_21 (by omega) ?_
      refine m_icmp_ne (tgt := 30) C dX12_rank_23 (by decide) (fun c => ?_) (fun c => ?_)
      · have h := h.1 c
        refine m_iload_n C dX12_rank_30 rfl ?_
        refine m_bipush C dX12_rank_31 (by omega) ?_
        refine m_icmp_eq (tgt := 48) C dX12_rank_33 (by decide) (fun c => ?_) (fun c => ?_)
        · have h := h.1 c
          refine m_iconst C dX12_rank_48 (by unfold in32; omega) ?_
          refine m_goto (tgt := 70) C dX12_rank_49 (by decide) ?_
          exact f_iret C R rfl dX12_rank_70 h
        · have h := h.2 c
          refine m_iload_n C dX12_rank_36 rfl ?_
          refine m_bipush C dX12_rank_37 (by omega) ?_
          refine m_icmp_eq (tgt := 48) C dX12_rank_39 (by decide) (fun c => ?_) (fun c => ?_)
          · have h := h.1 c
            refine m_iconst C dX12_rank_48 (by unfold in32; omega) ?_
            refine m_goto (tgt := 70) C dX12_rank_49 (by decide) ?_
            exact f_iret C R rfl dX12_rank_70 h
          · have h := h.2 c
            refine m_iload_n C dX12_rank_42 rfl ?_
            refine m_bipush C dX12_rank_43 (by omega) ?_
            refine m_icmp_ne (tgt := 52) C dX12_rank_45 (by decide) (fun c => ?_) (fun c => ?_)
            · have h := h.1 c
              refine m_iload_n C dX12_rank_52 rfl ?_
              refine m_bipush C dX12_rank_53 (by omega) ?_
              refine m_icmp_eq (tgt := 64) C dX12_rank_55 (by decide) (fun c => ?_) (fun c => ?_)
              · have h := h.1 c
                refine m_iconst C dX12_rank_64 (by unfold in32; omega) ?_
                refine m_goto (tgt := 70) C dX12_rank_65 (by decide) ?_
                exact f_iret C R rfl dX12_rank_70 h
              · have h := h.2 c
                refine m_iload_n C dX12_rank_58 rfl ?_
                refine m_bipush C dX12_rank_59 (by omega) ?_
                refine m_icmp_ne (tgt := 68) C dX12_rank_61 (by decide) (fun c => ?_) (fun c => ?_)
                · have h := h.1 c
                  refine m_bipush C dX12_rank_68 (by omega) ?_
                  exact f_iret C R rfl dX12_rank_70 h
                · have h := h.2 c
                  refine m_iconst C dX12_rank_64 (by unfold in32; omega) ?_
                  refine m_goto (tgt := 70) C dX12_rank_65 (by decide) ?_
                  exact f_iret C R rfl dX12_rank_70 h
            · have h := h.2 c
              refine m_iconst C dX12_rank_48 (by unfold in32; omega) ?_
              refine m_goto (tgt := 70) C dX12_rank_49 (by decide) ?_
              exact f_iret C R rfl dX12_rank_70 h
      · have h := h.2 c
        refine m_iconst C dX12_rank_26 (by unfold in32; omega) ?_
        refine m_goto (tgt := 70) C dX12_rank_27 (by decide) ?_
        exact f_iret C R rfl dX12_rank_70 h
    · have h := h.2 c
      refine m_iconst C dX12_rank_16 (by unfold in32; omega) ?_
      refine m_goto (tgt := 70) C dX12_rank_17 (by decide) ?_
      exact f_iret C R rfl dX12_rank_70 h
  · have h := h.2 c
    refine m_iconst C dX12_rank_6 (by unfold in32; omega) ?_
    refine m_goto (tgt := 70) C dX12_rank_7 (by decide) ?_
    exact f_iret C R rfl dX12_rank_70 h

set_option maxRecDepth 20000 in
theorem VX12_joins_0 {G : m_G} {X : m_X} {d : Nat} {K : m_M → Prop} (C : mC G X YX12_joins (d + 1)) (R : r_v G X K) {μ : m_M} {a1 : Int}
    (h : (0 ≤ w32 ((μ 34 0 36) - 1) ∧ w32 ((μ 34 0 36) - 1) < 20) ∧ ((μ 34 0 39 ≤ μ 34 36 (w32 ((μ 34 0 36) - 1)).toNat) → K μ) ∧ ((¬ μ 34 0 39 ≤ μ 34 36 (w32 ((μ 34 0 36) - 1)).toNat) → (0 ≤ w32 ((μ 34 0 39) - 1) ∧ w32 ((μ 34 0 39) - 1) < 500) ∧ c_i G d YX12_rank [vI (μ 34 39 (w32 ((μ 34 0 39) - 1)).toNat)] μ (fun r2 μ1 => ((r2 < a1) → K μ1) ∧ ((¬ r2 < a1) → ∀ μ3 : m_M, μ3 = m_up μ1 34 0 39 (w32 ((μ1 34 0 39) - 1)) → (0 ≤ μ3 34 0 39 ∧ μ3 34 0 39 < 500) ∧ c_v G d YX12_add [vR 34 0, vI (μ3 34 39 (μ3 34 0 39).toNat), vI 0] μ3 (fun μ4 => (0 ≤ μ4 34 0 39 ∧ μ4 34 0 39 < 500) ∧ ((¬ (μ4 34 39 (μ4 34 0 39).toNat) = 43) → mW G X YX12_joins μ4 0 [some (vR 34 0), some (vI a1)] []) ∧ ((μ4 34 39 (μ4 34 0 39).toNat = 43) → ∀ μ5 : m_M, μ5 = m_up μ4 34 0 37 (w32 ((μ4 34 0 37) - 1)) → mW G X YX12_joins μ5 0 [some (vR 34 0), some (vI a1)] [])))))) :
    mW G X YX12_joins μ 0 [some (vR 34 0), some (vI a1)] [] := by
  refine m_aload_n C dX12_joins_0 rfl ?_
  refine f_getI C dX12_joins_1 fl_KilnBenchModel_131 rfl (by decide) (by decide) ?_
  refine m_aload_n C dX12_joins_4 rfl ?_
  refine f_getA C dX12_joins_5 fl_KilnBenchModel_119 rfl (by decide) (by decide) (by decide) (by decide) ?_
  refine m_aload_n C dX12_joins_8 rfl ?_
  refine f_getI C dX12_joins_9 fl_KilnBenchModel_122 rfl (by decide) (by decide) ?_
  refine m_iconst C dX12_joins_12 (by unfold in32; omega) ?_
  refine m_isub C dX12_joins_13 ?_
  obtain ⟨hb, h⟩ := h
  refine f_iald C dX12_joins_14 (m_arO (a := 0) (len := 20) rfl rfl) (by decide) hb ?_
  refine m_icmp_le (tgt := 87) C dX12_joins_15 (by decide) (fun c => ?_) (fun c => ?_)
  · have h := h.1 c
    exact f_vret C R rfl dX12_joins_87 h
  · have h := h.2 c
    refine m_aload_n C dX12_joins_18 rfl ?_
    refine f_getA C dX12_joins_19 fl_KilnBenchModel_128 rfl (by decide) (by decide) (by decide) (by decide) ?_
    refine m_aload_n C dX12_joins_22 rfl ?_
    refine f_getI C dX12_joins_23 fl_KilnBenchModel_131 rfl (by decide) (by decide) ?_
    refine m_iconst C dX12_joins_26 (by unfold in32; omega) ?_
    refine m_isub C dX12_joins_27 ?_
    obtain ⟨hb, h⟩ := h
    refine f_iald C dX12_joins_28 (m_arO (a := 0) (len := 500) rfl rfl) (by decide) hb ?_
    refine f_callSi (As := [vI (μ 34 39 (w32 ((μ 34 0 39) - 1)).toNat)]) (st := []) C dX12_joins_29 ml_KilnBenchModel_300 rfl rfl (Nat.le_of_ble_eq_true rfl) h (fun r2 μ1 h => ?_)
    refine m_iload_n C dX12_joins_32 rfl ?_
    refine m_icmp_lt (tgt := 87) C dX12_joins_33 (by decide) (fun c => ?_) (fun c => ?_)
    · have h := h.1 c
      exact f_vret C R rfl dX12_joins_87 h
    · have h := h.2 c
      refine m_aload_n C dX12_joins_36 rfl ?_
      refine m_dup C dX12_joins_37 rfl ?_
      refine f_getI C dX12_joins_38 fl_KilnBenchModel_131 rfl (by decide) (by decide) ?_
      refine m_iconst C dX12_joins_41 (by unfold in32; omega) ?_
      refine m_isub C dX12_joins_42 ?_
      refine f_putI C dX12_joins_43 fl_KilnBenchModel_131 rfl (by decide) (by decide) (by decide) ?_
      refine n_mem (fun μ3 eμ3 => ?_)
      have h := h μ3 eμ3
      refine m_aload_n C dX12_joins_46 rfl ?_
      refine m_aload_n C dX12_joins_47 rfl ?_
      refine f_getA C dX12_joins_48 fl_KilnBenchModel_128 rfl (by decide) (by decide) (by decide) (by decide) ?_
      refine m_aload_n C dX12_joins_51 rfl ?_
      refine f_getI C dX12_joins_52 fl_KilnBenchModel_131 rfl (by decide) (by decide) ?_
      obtain ⟨hb, h⟩ := h
      refine f_iald C dX12_joins_55 (m_arO (a := 0) (len := 500) rfl rfl) (by decide) hb ?_
      refine m_iconst C dX12_joins_56 (by unfold in32; omega) ?_
      refine f_callVv (As := [vI (μ3 34 39 (μ3 34 0 39).toNat), vI 0]) (st := []) C dX12_joins_57 ml_KilnBenchModel_303 rfl (by decide) rfl rfl rfl (Nat.le_of_ble_eq_true rfl) h (fun μ4 h => ?_)
      refine m_aload_n C dX12_joins_60 rfl ?_
      refine f_getA C dX12_joins_61 fl_KilnBenchModel_128 rfl (by decide) (by decide) (by decide) (by decide) ?_
      refine m_aload_n C dX12_joins_64 rfl ?_
      refine f_getI C dX12_joins_65 fl_KilnBenchModel_131 rfl (by decide) (by decide) ?_
      obtain ⟨hb, h⟩ := h
      refine f_iald C dX12_joins_68 (m_arO (a := 0) (len := 500) rfl rfl) (by decide) hb ?_
      refine m_bipush C dX12_joins_69 (by omega) ?_
      refine m_icmp_ne (tgt := 0) C dX12_joins_71 (by decide) (fun c => ?_) (fun c => ?_)
      · have h := h.1 c
        exact h
      · have h := h.2 c
        refine m_aload_n C dX12_joins_74 rfl ?_
        refine m_dup C dX12_joins_75 rfl ?_
        refine f_getI C dX12_joins_76 fl_KilnBenchModel_125 rfl (by decide) (by decide) ?_
        refine m_iconst C dX12_joins_79 (by unfold in32; omega) ?_
        refine m_isub C dX12_joins_80 ?_
        refine f_putI C dX12_joins_81 fl_KilnBenchModel_125 rfl (by decide) (by decide) (by decide) ?_
        refine n_mem (fun μ5 eμ5 => ?_)
        have h := h μ5 eμ5
        refine m_goto (tgt := 0) C dX12_joins_84 (by decide) ?_
        exact h

set_option maxRecDepth 20000 in
theorem VX12_holdsBack_0 {G : m_G} {X : m_X} {d : Nat} {K : m_M → Prop} (C : mC G X YX12_holdsBack (d + 1)) (R : r_v G X K) {μ : m_M} {a1 : Int}
    (h : (0 ≤ μ 34 0 39 ∧ μ 34 0 39 < 500) ∧ ∀ μ1 : m_M, μ1 = m_up μ 34 39 (μ 34 0 39).toNat a1 → ∀ μ2 : m_M, μ2 = m_up μ1 34 0 39 (w32 ((μ1 34 0 39) + 1)) → K μ2) :
    mW G X YX12_holdsBack μ 0 [some (vR 34 0), some (vI a1)] [] := by
  refine m_aload_n C dX12_holdsBack_0 rfl ?_
  refine f_getA C dX12_holdsBack_1 fl_KilnBenchModel_128 rfl (by decide) (by decide) (by decide) (by decide) ?_
  refine m_aload_n C dX12_holdsBack_4 rfl ?_
  refine f_getI C dX12_holdsBack_5 fl_KilnBenchModel_131 rfl (by decide) (by decide) ?_
  refine m_iload_n C dX12_holdsBack_8 rfl ?_
  obtain ⟨hb, h⟩ := h
  refine f_iast C dX12_holdsBack_9 (m_arO (a := 0) (len := 500) rfl rfl) (by decide) hb ?_
  refine n_mem (fun μ1 eμ1 => ?_)
  have h := h μ1 eμ1
  refine m_aload_n C dX12_holdsBack_10 rfl ?_
  refine m_dup C dX12_holdsBack_11 rfl ?_
  refine f_getI C dX12_holdsBack_12 fl_KilnBenchModel_131 rfl (by decide) (by decide) ?_
  refine m_iconst C dX12_holdsBack_15 (by unfold in32; omega) ?_
  refine m_iadd C dX12_holdsBack_16 ?_
  refine f_putI C dX12_holdsBack_17 fl_KilnBenchModel_131 rfl (by decide) (by decide) (by decide) ?_
  refine n_mem (fun μ2 eμ2 => ?_)
  have h := h μ2 eμ2
  exact f_vret C R rfl dX12_holdsBack_20 h

set_option maxRecDepth 20000 in
theorem VX12_pushes_0 {G : m_G} {X : m_X} {d : Nat} {K : m_M → Prop} (C : mC G X YX12_pushes (d + 1)) (R : r_v G X K) {μ : m_M} {a1 : Int}
    (h : (0 ≤ μ 34 0 36 ∧ μ 34 0 36 < 20) ∧ ∀ μ1 : m_M, μ1 = m_up μ 34 32 (μ 34 0 36).toNat a1 → (0 ≤ μ1 34 0 36 ∧ μ1 34 0 36 < 20) ∧ ∀ μ2 : m_M, μ2 = m_up μ1 34 33 (μ1 34 0 36).toNat 0 → (0 ≤ μ2 34 0 36 ∧ μ2 34 0 36 < 20) ∧ ∀ μ3 : m_M, μ3 = m_up μ2 34 34 (μ2 34 0 36).toNat 1 → (0 ≤ μ3 34 0 36 ∧ μ3 34 0 36 < 20) ∧ ∀ μ4 : m_M, μ4 = m_up μ3 34 36 (μ3 34 0 36).toNat (μ3 34 0 39) → ∀ μ5 : m_M, μ5 = m_up μ4 34 0 36 (w32 ((μ4 34 0 36) + 1)) → K μ5) :
    mW G X YX12_pushes μ 0 [some (vR 34 0), some (vI a1)] [] := by
  refine m_aload_n C dX12_pushes_0 rfl ?_
  refine f_getA C dX12_pushes_1 fl_KilnBenchModel_106 rfl (by decide) (by decide) (by decide) (by decide) ?_
  refine m_aload_n C dX12_pushes_4 rfl ?_
  refine f_getI C dX12_pushes_5 fl_KilnBenchModel_122 rfl (by decide) (by decide) ?_
  refine m_iload_n C dX12_pushes_8 rfl ?_
  obtain ⟨hb, h⟩ := h
  refine f_iast C dX12_pushes_9 (m_arO (a := 0) (len := 20) rfl rfl) (by decide) hb ?_
  refine n_mem (fun μ1 eμ1 => ?_)
  have h := h μ1 eμ1
  refine m_aload_n C dX12_pushes_10 rfl ?_
  refine f_getA C dX12_pushes_11 fl_KilnBenchModel_109 rfl (by decide) (by decide) (by decide) (by decide) ?_
  refine m_aload_n C dX12_pushes_14 rfl ?_
  refine f_getI C dX12_pushes_15 fl_KilnBenchModel_122 rfl (by decide) (by decide) ?_
  refine m_iconst C dX12_pushes_18 (by unfold in32; omega) ?_
  obtain ⟨hb, h⟩ := h
  refine f_iast C dX12_pushes_19 (m_arO (a := 0) (len := 20) rfl rfl) (by decide) hb ?_
  refine n_mem (fun μ2 eμ2 => ?_)
  have h := h μ2 eμ2
  refine m_aload_n C dX12_pushes_20 rfl ?_
  refine f_getA C dX12_pushes_21 fl_KilnBenchModel_112 rfl (by decide) (by decide) (by decide) (by decide) ?_
  refine m_aload_n C dX12_pushes_24 rfl ?_
  refine f_getI C dX12_pushes_25 fl_KilnBenchModel_122 rfl (by decide) (by decide) ?_
  refine m_iconst C dX12_pushes_28 (by unfold in32; omega) ?_
  obtain ⟨hb, h⟩ := h
  refine f_zast C dX12_pushes_29 (m_arO (a := 2) (len := 20) rfl rfl) (by decide) hb (by decide) ?_
  refine n_mem (fun μ3 eμ3 => ?_)
  have h := h μ3 eμ3
  refine m_aload_n C dX12_pushes_30 rfl ?_
  refine f_getA C dX12_pushes_31 fl_KilnBenchModel_119 rfl (by decide) (by decide) (by decide) (by decide) ?_
  refine m_aload_n C dX12_pushes_34 rfl ?_
  refine f_getI C dX12_pushes_35 fl_KilnBenchModel_122 rfl (by decide) (by decide) ?_
  refine m_aload_n C dX12_pushes_38 rfl ?_
  refine f_getI C dX12_pushes_39 fl_KilnBenchModel_131 rfl (by decide) (by decide) ?_
  obtain ⟨hb, h⟩ := h
  refine f_iast C dX12_pushes_42 (m_arO (a := 0) (len := 20) rfl rfl) (by decide) hb ?_
  refine n_mem (fun μ4 eμ4 => ?_)
  have h := h μ4 eμ4
  refine m_aload_n C dX12_pushes_43 rfl ?_
  refine m_dup C dX12_pushes_44 rfl ?_
  refine f_getI C dX12_pushes_45 fl_KilnBenchModel_122 rfl (by decide) (by decide) ?_
  refine m_iconst C dX12_pushes_48 (by unfold in32; omega) ?_
  refine m_iadd C dX12_pushes_49 ?_
  refine f_putI C dX12_pushes_50 fl_KilnBenchModel_122 rfl (by decide) (by decide) (by decide) ?_
  refine n_mem (fun μ5 eμ5 => ?_)
  have h := h μ5 eμ5
  exact f_vret C R rfl dX12_pushes_53 h

set_option maxRecDepth 20000 in
theorem VX12_opens_0 {G : m_G} {X : m_X} {d : Nat} {K : m_M → Prop} (C : mC G X YX12_opens (d + 1)) (R : r_v G X K) {μ : m_M} {a1 : Int}
    (h : ((¬ (μ 34 0 37) = 7) → mW G X YX12_opens μ 18 [some (vR 34 0), some (vI a1)] []) ∧ ((μ 34 0 37 = 7) → c_v G d YX12_blame [vR 34 0, vI 5, vI (μ 34 0 4)] μ (fun μ1 => mW G X YX12_opens μ1 18 [some (vR 34 0), some (vI a1)] []))) :
    mW G X YX12_opens μ 0 [some (vR 34 0), some (vI a1)] [] := by
  refine m_aload_n C dX12_opens_0 rfl ?_
  refine f_getI C dX12_opens_1 fl_KilnBenchModel_125 rfl (by decide) (by decide) ?_
  refine m_bipush C dX12_opens_4 (by omega) ?_
  refine m_icmp_ne (tgt := 18) C dX12_opens_6 (by decide) (fun c => ?_) (fun c => ?_)
  · have h := h.1 c
    exact h
  · have h := h.2 c
    refine m_aload_n C dX12_opens_9 rfl ?_
    refine m_iconst C dX12_opens_10 (by unfold in32; omega) ?_
    refine m_aload_n C dX12_opens_11 rfl ?_
    refine f_getI C dX12_opens_12 fl_KilnBenchModel_23 rfl (by decide) (by decide) ?_
    refine f_callVv (As := [vI 5, vI (μ 34 0 4)]) (st := []) C dX12_opens_15 ml_KilnBenchModel_224 rfl (by decide) rfl rfl rfl (Nat.le_of_ble_eq_true rfl) h (fun μ1 h => ?_)
    exact h

set_option maxRecDepth 20000 in
theorem VX12_opens_18 {G : m_G} {X : m_X} {d : Nat} {K : m_M → Prop} (C : mC G X YX12_opens (d + 1)) (R : r_v G X K) {μ : m_M} {a1 : Int}
    (h : ((μ 34 0 8 ≤ 0) → ∀ μ1 : m_M, μ1 = m_up μ 34 0 37 (w32 ((μ 34 0 37) + 1)) → c_v G d YX12_ahead [vR 34 0] μ1 (fun μ2 => c_v G d YX12_pushes [vR 34 0, vI a1] μ2 (fun μ3 => K μ3))) ∧ ((¬ μ 34 0 8 ≤ 0) → K μ)) :
    mW G X YX12_opens μ 18 [some (vR 34 0), some (vI a1)] [] := by
  refine m_aload_n C dX12_opens_18 rfl ?_
  refine f_getI C dX12_opens_19 fl_KilnBenchModel_36 rfl (by decide) (by decide) ?_
  refine m_if_le (tgt := 26) C dX12_opens_22 (by decide) (fun c => ?_) (fun c => ?_)
  · have h := h.1 c
    refine m_aload_n C dX12_opens_26 rfl ?_
    refine m_dup C dX12_opens_27 rfl ?_
    refine f_getI C dX12_opens_28 fl_KilnBenchModel_125 rfl (by decide) (by decide) ?_
    refine m_iconst C dX12_opens_31 (by unfold in32; omega) ?_
    refine m_iadd C dX12_opens_32 ?_
    refine f_putI C dX12_opens_33 fl_KilnBenchModel_125 rfl (by decide) (by decide) (by decide) ?_
    refine n_mem (fun μ1 eμ1 => ?_)
    have h := h μ1 eμ1
    refine m_aload_n C dX12_opens_36 rfl ?_
    refine f_callVv (As := []) (st := []) C dX12_opens_37 ml_KilnBenchModel_241 rfl (by decide) rfl rfl rfl (Nat.le_of_ble_eq_true rfl) h (fun μ2 h => ?_)
    refine m_aload_n C dX12_opens_40 rfl ?_
    refine m_iload_n C dX12_opens_41 rfl ?_
    refine f_callVv (As := [vI a1]) (st := []) C dX12_opens_42 ml_KilnBenchModel_306 rfl (by decide) rfl rfl rfl (Nat.le_of_ble_eq_true rfl) h (fun μ3 h => ?_)
    exact f_vret C R rfl dX12_opens_45 h
  · have h := h.2 c
    exact f_vret C R rfl dX12_opens_25 h

set_option maxRecDepth 20000 in
theorem VX12_isTest_0 {G : m_G} {X : m_X} {d : Nat} {K : Int → m_M → Prop} (C : mC G X YX12_isTest (d + 1)) (R : r_i G X K) {μ : m_M} {a1 : Int}
    (h : ((a1 = 1) → K 1 μ) ∧ ((¬ a1 = 1) → ((a1 = 5) → K 1 μ) ∧ ((¬ a1 = 5) → ((¬ a1 = 6) → K 0 μ) ∧ ((a1 = 6) → K 1 μ)))) :
    mW G X YX12_isTest μ 0 [some (vI a1)] [] := by
  refine m_iload_n C dX12_isTest_0 rfl ?_
  refine m_iconst C dX12_isTest_1 (by unfold in32; omega) ?_
  refine m_icmp_eq (tgt := 16) C dX12_isTest_2 (by decide) (fun c => ?_) (fun c => ?_)
  · have h := h.1 c
    refine m_iconst C dX12_isTest_16 (by unfold in32; omega) ?_
    refine m_goto (tgt := 21) C dX12_isTest_17 (by decide) ?_
    exact f_zret C R rfl dX12_isTest_21 (by decide) h
  · have h := h.2 c
    refine m_iload_n C dX12_isTest_5 rfl ?_
    refine m_iconst C dX12_isTest_6 (by unfold in32; omega) ?_
    refine m_icmp_eq (tgt := 16) C dX12_isTest_7 (by decide) (fun c => ?_) (fun c => ?_)
    · have h := h.1 c
      refine m_iconst C dX12_isTest_16 (by unfold in32; omega) ?_
      refine m_goto (tgt := 21) C dX12_isTest_17 (by decide) ?_
      exact f_zret C R rfl dX12_isTest_21 (by decide) h
    · have h := h.2 c
      refine m_iload_n C dX12_isTest_10 rfl ?_
      refine m_bipush C dX12_isTest_11 (by omega) ?_
      refine m_icmp_ne (tgt := 20) C dX12_isTest_13 (by decide) (fun c => ?_) (fun c => ?_)
      · have h := h.1 c
        refine m_iconst C dX12_isTest_20 (by unfold in32; omega) ?_
        exact f_zret C R rfl dX12_isTest_21 (by decide) h
      · have h := h.2 c
        refine m_iconst C dX12_isTest_16 (by unfold in32; omega) ?_
        refine m_goto (tgt := 21) C dX12_isTest_17 (by decide) ?_
        exact f_zret C R rfl dX12_isTest_21 (by decide) h

set_option maxRecDepth 20000 in
theorem VX12_operand_0 {G : m_G} {X : m_X} {d : Nat} {K : Int → m_M → Prop} (C : mC G X YX12_operand (d + 1)) (R : r_i G X K) {μ : m_M}
    (h : c_v G d YX12_lex [vR 34 0] μ (fun μ1 => ((μ1 34 0 8 ≤ 0) → ∀ x2 : Int, x2 = w32 ((μ1 34 0 36) - 1) → (0 ≤ x2 ∧ x2 < 20) ∧ c_i G d YX12_isTest [vI (μ1 34 32 x2.toNat)] μ1 (fun r4 μ3 => ((r4 = 0) → mW G X YX12_operand μ3 45 [some (vR 34 0), some (vI x2), none, none] []) ∧ ((¬ r4 = 0) → (0 ≤ x2 ∧ x2 < 20) ∧ ((μ3 34 34 x2.toNat = 0) → mW G X YX12_operand μ3 45 [some (vR 34 0), some (vI x2), none, none] []) ∧ ((¬ μ3 34 34 x2.toNat = 0) → c_i G d YX12_isWord [vR 34 0, vJ 7237492] μ3 (fun r7 μ6 => ((r7 = 0) → mW G X YX12_operand μ6 110 [some (vR 34 0), some (vI x2), some (vI 1), none] []) ∧ ((¬ r7 = 0) → ((¬ (μ6 34 0 37) = 7) → mW G X YX12_operand μ6 79 [some (vR 34 0), some (vI x2), some (vI 1), none] []) ∧ ((μ6 34 0 37 = 7) → c_v G d YX12_blame [vR 34 0, vI 5, vI (μ6 34 0 4)] μ6 (fun μ8 => mW G X YX12_operand μ8 79 [some (vR 34 0), some (vI x2), some (vI 1), none] [])))))))) ∧ ((¬ μ1 34 0 8 ≤ 0) → K 1 μ1))) :
    mW G X YX12_operand μ 0 [some (vR 34 0), none, none, none] [] := by
  refine m_aload_n C dX12_operand_0 rfl ?_
  refine f_callVv (As := []) (st := []) C dX12_operand_1 ml_KilnBenchModel_235 rfl (by decide) rfl rfl rfl (Nat.le_of_ble_eq_true rfl) h (fun μ1 h => ?_)
  refine m_aload_n C dX12_operand_4 rfl ?_
  refine f_getI C dX12_operand_5 fl_KilnBenchModel_36 rfl (by decide) (by decide) ?_
  refine m_if_le (tgt := 13) C dX12_operand_8 (by decide) (fun c => ?_) (fun c => ?_)
  · have h := h.1 c
    refine m_aload_n C dX12_operand_13 rfl ?_
    refine f_getI C dX12_operand_14 fl_KilnBenchModel_122 rfl (by decide) (by decide) ?_
    refine m_iconst C dX12_operand_17 (by unfold in32; omega) ?_
    refine m_isub C dX12_operand_18 ?_
    refine n_istore_n (fun x2 => [some (vR 34 0), some (vI x2), none, none]) C dX12_operand_19 (by decide) (fun _ => rfl) (fun x2 ex2 => ?_)
    have h := h x2 ex2
    refine m_aload_n C dX12_operand_20 rfl ?_
    refine f_getA C dX12_operand_21 fl_KilnBenchModel_106 rfl (by decide) (by decide) (by decide) (by decide) ?_
    refine m_iload_n C dX12_operand_24 rfl ?_
    obtain ⟨hb, h⟩ := h
    refine f_iald C dX12_operand_25 (m_arO (a := 0) (len := 20) rfl rfl) (by decide) hb ?_
    refine f_callSi (As := [vI (μ1 34 32 x2.toNat)]) (st := []) C dX12_operand_26 ml_KilnBenchModel_309 rfl rfl (Nat.le_of_ble_eq_true rfl) h (fun r4 μ3 h => ?_)
    refine m_if_eq (tgt := 45) C dX12_operand_29 (by decide) (fun c => ?_) (fun c => ?_)
    · have h := h.1 c
      exact h
    · have h := h.2 c
      refine m_aload_n C dX12_operand_32 rfl ?_
      refine f_getA C dX12_operand_33 fl_KilnBenchModel_112 rfl (by decide) (by decide) (by decide) (by decide) ?_
      refine m_iload_n C dX12_operand_36 rfl ?_
      obtain ⟨hb, h⟩ := h
      refine f_zald C dX12_operand_37 (m_arO (a := 2) (len := 20) rfl rfl) (by decide) hb ?_
      refine m_if_eq (tgt := 45) C dX12_operand_38 (by decide) (fun c => ?_) (fun c => ?_)
      · have h := h.1 c
        exact h
      · have h := h.2 c
        refine m_iconst C dX12_operand_41 (by unfold in32; omega) ?_
        refine m_goto (tgt := 46) C dX12_operand_42 (by decide) ?_
        refine o_istore_n [some (vR 34 0), some (vI x2), some (vI 1), none] C dX12_operand_46 (by decide) rfl ?_
        refine m_iload_n C dX12_operand_47 rfl ?_
        refine m_if_eq (tgt := 110) C dX12_operand_48 (by decide) (fun c => absurd c (by decide)) (fun c => ?_)
        refine m_aload_n C dX12_operand_51 rfl ?_
        refine m_ldc2 (x := 7237492) C dX12_operand_52 lc_KilnBenchModel_288 rfl ?_
        refine f_callVi (As := [vJ 7237492]) (st := []) C dX12_operand_55 ml_KilnBenchModel_312 rfl (by decide) rfl rfl rfl (Nat.le_of_ble_eq_true rfl) h (fun r7 μ6 h => ?_)
        refine m_if_eq (tgt := 110) C dX12_operand_58 (by decide) (fun c => ?_) (fun c => ?_)
        · have h := h.1 c
          exact h
        · have h := h.2 c
          refine m_aload_n C dX12_operand_61 rfl ?_
          refine f_getI C dX12_operand_62 fl_KilnBenchModel_125 rfl (by decide) (by decide) ?_
          refine m_bipush C dX12_operand_65 (by omega) ?_
          refine m_icmp_ne (tgt := 79) C dX12_operand_67 (by decide) (fun c => ?_) (fun c => ?_)
          · have h := h.1 c
            exact h
          · have h := h.2 c
            refine m_aload_n C dX12_operand_70 rfl ?_
            refine m_iconst C dX12_operand_71 (by unfold in32; omega) ?_
            refine m_aload_n C dX12_operand_72 rfl ?_
            refine f_getI C dX12_operand_73 fl_KilnBenchModel_23 rfl (by decide) (by decide) ?_
            refine f_callVv (As := [vI 5, vI (μ6 34 0 4)]) (st := []) C dX12_operand_76 ml_KilnBenchModel_224 rfl (by decide) rfl rfl rfl (Nat.le_of_ble_eq_true rfl) h (fun μ8 h => ?_)
            exact h
  · have h := h.2 c
    refine m_iconst C dX12_operand_11 (by unfold in32; omega) ?_
    exact f_zret C R rfl dX12_operand_12 (by decide) h

set_option maxRecDepth 20000 in
theorem VX12_operand_45 {G : m_G} {X : m_X} {d : Nat} {K : Int → m_M → Prop} (C : mC G X YX12_operand (d + 1)) (R : r_i G X K) {μ : m_M} {l1 : Int}
    (h : mW G X YX12_operand μ 110 [some (vR 34 0), some (vI l1), some (vI 0), none] []) :
    mW G X YX12_operand μ 45 [some (vR 34 0), some (vI l1), none, none] [] := by
  refine m_iconst C dX12_operand_45 (by unfold in32; omega) ?_
  refine o_istore_n [some (vR 34 0), some (vI l1), some (vI 0), none] C dX12_operand_46 (by decide) rfl ?_
  refine m_iload_n C dX12_operand_47 rfl ?_
  refine m_if_eq (tgt := 110) C dX12_operand_48 (by decide) (fun c => ?_) (fun c => absurd c (by decide))
  exact h

set_option maxRecDepth 20000 in
theorem VX12_operand_79 {G : m_G} {X : m_X} {d : Nat} {K : Int → m_M → Prop} (C : mC G X YX12_operand (d + 1)) (R : r_i G X K) {μ : m_M} {l1 : Int} {l2 : Int}
    (h : ((μ 34 0 8 ≤ 0) → ∀ μ1 : m_M, μ1 = m_up μ 34 0 37 (w32 ((μ 34 0 37) + 1)) → c_v G d YX12_holdsBack [vR 34 0, vI 43] μ1 (fun μ2 => c_v G d YX12_ahead [vR 34 0] μ2 (fun μ3 => K 0 μ3))) ∧ ((¬ μ 34 0 8 ≤ 0) → K 1 μ)) :
    mW G X YX12_operand μ 79 [some (vR 34 0), some (vI l1), some (vI l2), none] [] := by
  refine m_aload_n C dX12_operand_79 rfl ?_
  refine f_getI C dX12_operand_80 fl_KilnBenchModel_36 rfl (by decide) (by decide) ?_
  refine m_if_le (tgt := 88) C dX12_operand_83 (by decide) (fun c => ?_) (fun c => ?_)
  · have h := h.1 c
    refine m_aload_n C dX12_operand_88 rfl ?_
    refine m_dup C dX12_operand_89 rfl ?_
    refine f_getI C dX12_operand_90 fl_KilnBenchModel_125 rfl (by decide) (by decide) ?_
    refine m_iconst C dX12_operand_93 (by unfold in32; omega) ?_
    refine m_iadd C dX12_operand_94 ?_
    refine f_putI C dX12_operand_95 fl_KilnBenchModel_125 rfl (by decide) (by decide) (by decide) ?_
    refine n_mem (fun μ1 eμ1 => ?_)
    have h := h μ1 eμ1
    refine m_aload_n C dX12_operand_98 rfl ?_
    refine m_bipush C dX12_operand_99 (by omega) ?_
    refine f_callVv (As := [vI 43]) (st := []) C dX12_operand_101 ml_KilnBenchModel_316 rfl (by decide) rfl rfl rfl (Nat.le_of_ble_eq_true rfl) h (fun μ2 h => ?_)
    refine m_aload_n C dX12_operand_104 rfl ?_
    refine f_callVv (As := []) (st := []) C dX12_operand_105 ml_KilnBenchModel_241 rfl (by decide) rfl rfl rfl (Nat.le_of_ble_eq_true rfl) h (fun μ3 h => ?_)
    refine m_iconst C dX12_operand_108 (by unfold in32; omega) ?_
    exact f_zret C R rfl dX12_operand_109 (by decide) h
  · have h := h.2 c
    refine m_iconst C dX12_operand_86 (by unfold in32; omega) ?_
    exact f_zret C R rfl dX12_operand_87 (by decide) h

set_option maxRecDepth 20000 in
theorem VX12_operand_110 {G : m_G} {X : m_X} {d : Nat} {K : Int → m_M → Prop} (C : mC G X YX12_operand (d + 1)) (R : r_i G X K) {μ : m_M} {l1 : Int} {l2 : Int}
    (h : (0 ≤ l1 ∧ l1 < 20) ∧ ∀ μ1 : m_M, μ1 = m_up μ 34 34 l1.toNat 0 → ((l2 = 0) → mW G X YX12_operand μ1 137 [some (vR 34 0), some (vI l1), some (vI l2), none] []) ∧ ((¬ l2 = 0) → c_i G d YX12_isSign [vR 34 0, vI 91] μ1 (fun r3 μ2 => ((r3 = 0) → mW G X YX12_operand μ2 137 [some (vR 34 0), some (vI l1), some (vI l2), none] []) ∧ ((¬ r3 = 0) → c_v G d YX12_opens [vR 34 0, vI 5] μ2 (fun μ4 => K 0 μ4))))) :
    mW G X YX12_operand μ 110 [some (vR 34 0), some (vI l1), some (vI l2), none] [] := by
  refine m_aload_n C dX12_operand_110 rfl ?_
  refine f_getA C dX12_operand_111 fl_KilnBenchModel_112 rfl (by decide) (by decide) (by decide) (by decide) ?_
  refine m_iload_n C dX12_operand_114 rfl ?_
  refine m_iconst C dX12_operand_115 (by unfold in32; omega) ?_
  obtain ⟨hb, h⟩ := h
  refine f_zast C dX12_operand_116 (m_arO (a := 2) (len := 20) rfl rfl) (by decide) hb (by decide) ?_
  refine n_mem (fun μ1 eμ1 => ?_)
  have h := h μ1 eμ1
  refine m_iload_n C dX12_operand_117 rfl ?_
  refine m_if_eq (tgt := 137) C dX12_operand_118 (by decide) (fun c => ?_) (fun c => ?_)
  · have h := h.1 c
    exact h
  · have h := h.2 c
    refine m_aload_n C dX12_operand_121 rfl ?_
    refine m_bipush C dX12_operand_122 (by omega) ?_
    refine f_callVi (As := [vI 91]) (st := []) C dX12_operand_124 ml_KilnBenchModel_238 rfl (by decide) rfl rfl rfl (Nat.le_of_ble_eq_true rfl) h (fun r3 μ2 h => ?_)
    refine m_if_eq (tgt := 137) C dX12_operand_127 (by decide) (fun c => ?_) (fun c => ?_)
    · have h := h.1 c
      exact h
    · have h := h.2 c
      refine m_aload_n C dX12_operand_130 rfl ?_
      refine m_iconst C dX12_operand_131 (by unfold in32; omega) ?_
      refine f_callVv (As := [vI 5]) (st := []) C dX12_operand_132 ml_KilnBenchModel_319 rfl (by decide) rfl rfl rfl (Nat.le_of_ble_eq_true rfl) h (fun μ4 h => ?_)
      refine m_iconst C dX12_operand_135 (by unfold in32; omega) ?_
      exact f_zret C R rfl dX12_operand_136 (by decide) h

set_option maxRecDepth 20000 in
theorem VX12_operand_137 {G : m_G} {X : m_X} {d : Nat} {K : Int → m_M → Prop} (C : mC G X YX12_operand (d + 1)) (R : r_i G X K) {μ : m_M} {l1 : Int} {l2 : Int}
    (h : ((l2 = 0) → mW G X YX12_operand μ 171 [some (vR 34 0), some (vI l1), some (vI l2), none] []) ∧ ((¬ l2 = 0) → c_i G d YX12_isWord [vR 34 0, vJ 6384748] μ (fun r2 μ1 => ((r2 = 0) → mW G X YX12_operand μ1 171 [some (vR 34 0), some (vI l1), some (vI l2), none] []) ∧ ((¬ r2 = 0) → c_v G d YX12_add [vR 34 0, vI 30, vI 0] μ1 (fun μ3 => (0 ≤ l1 ∧ l1 < 20) ∧ ∀ μ4 : m_M, μ4 = m_up μ3 34 33 l1.toNat 2 → c_v G d YX12_ahead [vR 34 0] μ4 (fun μ5 => K 1 μ5)))))) :
    mW G X YX12_operand μ 137 [some (vR 34 0), some (vI l1), some (vI l2), none] [] := by
  refine m_iload_n C dX12_operand_137 rfl ?_
  refine m_if_eq (tgt := 171) C dX12_operand_138 (by decide) (fun c => ?_) (fun c => ?_)
  · have h := h.1 c
    exact h
  · have h := h.2 c
    refine m_aload_n C dX12_operand_141 rfl ?_
    refine m_ldc2 (x := 6384748) C dX12_operand_142 lc_KilnBenchModel_290 rfl ?_
    refine f_callVi (As := [vJ 6384748]) (st := []) C dX12_operand_145 ml_KilnBenchModel_312 rfl (by decide) rfl rfl rfl (Nat.le_of_ble_eq_true rfl) h (fun r2 μ1 h => ?_)
    refine m_if_eq (tgt := 171) C dX12_operand_148 (by decide) (fun c => ?_) (fun c => ?_)
    · have h := h.1 c
      exact h
    · have h := h.2 c
      refine m_aload_n C dX12_operand_151 rfl ?_
      refine m_bipush C dX12_operand_152 (by omega) ?_
      refine m_iconst C dX12_operand_154 (by unfold in32; omega) ?_
      refine f_callVv (As := [vI 30, vI 0]) (st := []) C dX12_operand_155 ml_KilnBenchModel_303 rfl (by decide) rfl rfl rfl (Nat.le_of_ble_eq_true rfl) h (fun μ3 h => ?_)
      refine m_aload_n C dX12_operand_158 rfl ?_
      refine f_getA C dX12_operand_159 fl_KilnBenchModel_109 rfl (by decide) (by decide) (by decide) (by decide) ?_
      refine m_iload_n C dX12_operand_162 rfl ?_
      refine m_iconst C dX12_operand_163 (by unfold in32; omega) ?_
      obtain ⟨hb, h⟩ := h
      refine f_iast C dX12_operand_164 (m_arO (a := 0) (len := 20) rfl rfl) (by decide) hb ?_
      refine n_mem (fun μ4 eμ4 => ?_)
      have h := h μ4 eμ4
      refine m_aload_n C dX12_operand_165 rfl ?_
      refine f_callVv (As := []) (st := []) C dX12_operand_166 ml_KilnBenchModel_241 rfl (by decide) rfl rfl rfl (Nat.le_of_ble_eq_true rfl) h (fun μ5 h => ?_)
      refine m_iconst C dX12_operand_169 (by unfold in32; omega) ?_
      exact f_zret C R rfl dX12_operand_170 (by decide) h

set_option maxRecDepth 20000 in
theorem VX12_operand_171 {G : m_G} {X : m_X} {d : Nat} {K : Int → m_M → Prop} (C : mC G X YX12_operand (d + 1)) (R : r_i G X K) {μ : m_M} {l1 : Int} {l2 : Int}
    (h : c_i G d YX12_isSign [vR 34 0, vI 40] μ (fun r2 μ1 => ((r2 = 0) → c_i G d YX12_isWord [vR 34 0, vJ 7170414] μ1 (fun r4 μ3 => ((¬ r4 = 0) → mW G X YX12_operand μ3 217 [some (vR 34 0), some (vI l1), some (vI l2), none] []) ∧ ((r4 = 0) → c_i G d YX12_isWord [vR 34 0, vJ 7168376] μ3 (fun r6 μ5 => ((¬ r6 = 0) → mW G X YX12_operand μ5 217 [some (vR 34 0), some (vI l1), some (vI l2), none] []) ∧ ((r6 = 0) → c_i G d YX12_isWord [vR 34 0, vJ 26982] μ5 (fun r8 μ7 => ((r8 = 0) → ((¬ (μ7 34 0 3) = 2) → c_i G d YX12_isWord [vR 34 0, vJ 1751474548] μ7 (fun r10 μ9 => ((r10 = 0) → c_i G d YX12_isWord [vR 34 0, vJ 2003133803] μ9 (fun r12 μ11 => ((r12 = 0) → c_i G d YX12_isWord [vR 34 0, vJ 1668047225] μ11 (fun r14 μ13 => ((r14 = 0) → c_i G d YX12_isWord [vR 34 0, vJ 1735551348] μ13 (fun r16 μ15 => ((r16 = 0) → c_i G d YX12_isWord [vR 34 0, vJ 482854658917] μ15 (fun r18 μ17 => ((r18 = 0) → c_i G d YX12_isWord [vR 34 0, vJ 491395114867] μ17 (fun r20 μ19 => ((r20 = 0) → c_i G d YX12_isWord [vR 34 0, vJ 1852137842] μ19 (fun r22 μ21 => ((r22 = 0) → c_i G d YX12_isWord [vR 34 0, vJ 444301145203] μ21 (fun r24 μ23 => ((r24 = 0) → c_i G d YX12_isWord [vR 34 0, vJ 1919905645] μ23 (fun r26 μ25 => ((r26 = 0) → c_i G d YX12_isWord [vR 34 0, vJ 1718971500] μ25 (fun r28 μ27 => ((r28 = 0) → mW G X YX12_operand μ27 487 [some (vR 34 0), some (vI l1), some (vI l2), some (vI (-1))] []) ∧ ((¬ r28 = 0) → c_i G d YX12_isOf [vR 34 0, vI 10] μ27 (fun r32 μ31 => ((¬ r32 = 0) → mW G X YX12_operand μ31 487 [some (vR 34 0), some (vI l1), some (vI l2), some (vI 10)] []) ∧ ((r32 = 0) → mW G X YX12_operand μ31 487 [some (vR 34 0), some (vI l1), some (vI l2), some (vI (-1))] []))))) ∧ ((¬ r26 = 0) → c_i G d YX12_isOf [vR 34 0, vI 9] μ25 (fun r36 μ35 => ((¬ r36 = 0) → mW G X YX12_operand μ35 487 [some (vR 34 0), some (vI l1), some (vI l2), some (vI 9)] []) ∧ ((r36 = 0) → mW G X YX12_operand μ35 487 [some (vR 34 0), some (vI l1), some (vI l2), some (vI (-1))] []))))) ∧ ((¬ r24 = 0) → c_i G d YX12_isOf [vR 34 0, vI 8] μ23 (fun r40 μ39 => ((¬ r40 = 0) → mW G X YX12_operand μ39 487 [some (vR 34 0), some (vI l1), some (vI l2), some (vI 8)] []) ∧ ((r40 = 0) → mW G X YX12_operand μ39 487 [some (vR 34 0), some (vI l1), some (vI l2), some (vI (-1))] []))))) ∧ ((¬ r22 = 0) → c_i G d YX12_isOf [vR 34 0, vI 7] μ21 (fun r44 μ43 => ((¬ r44 = 0) → mW G X YX12_operand μ43 487 [some (vR 34 0), some (vI l1), some (vI l2), some (vI 7)] []) ∧ ((r44 = 0) → mW G X YX12_operand μ43 487 [some (vR 34 0), some (vI l1), some (vI l2), some (vI (-1))] []))))) ∧ ((¬ r20 = 0) → c_i G d YX12_isOf [vR 34 0, vI 6] μ19 (fun r48 μ47 => ((¬ r48 = 0) → mW G X YX12_operand μ47 487 [some (vR 34 0), some (vI l1), some (vI l2), some (vI 6)] []) ∧ ((r48 = 0) → mW G X YX12_operand μ47 487 [some (vR 34 0), some (vI l1), some (vI l2), some (vI (-1))] []))))) ∧ ((¬ r18 = 0) → c_i G d YX12_isOf [vR 34 0, vI 5] μ17 (fun r52 μ51 => ((¬ r52 = 0) → mW G X YX12_operand μ51 487 [some (vR 34 0), some (vI l1), some (vI l2), some (vI 5)] []) ∧ ((r52 = 0) → mW G X YX12_operand μ51 487 [some (vR 34 0), some (vI l1), some (vI l2), some (vI (-1))] []))))) ∧ ((¬ r16 = 0) → c_i G d YX12_isOf [vR 34 0, vI 4] μ15 (fun r56 μ55 => ((¬ r56 = 0) → mW G X YX12_operand μ55 487 [some (vR 34 0), some (vI l1), some (vI l2), some (vI 4)] []) ∧ ((r56 = 0) → mW G X YX12_operand μ55 487 [some (vR 34 0), some (vI l1), some (vI l2), some (vI (-1))] []))))) ∧ ((¬ r14 = 0) → c_i G d YX12_isOf [vR 34 0, vI 3] μ13 (fun r60 μ59 => ((¬ r60 = 0) → mW G X YX12_operand μ59 487 [some (vR 34 0), some (vI l1), some (vI l2), some (vI 3)] []) ∧ ((r60 = 0) → mW G X YX12_operand μ59 487 [some (vR 34 0), some (vI l1), some (vI l2), some (vI (-1))] []))))) ∧ ((¬ r12 = 0) → mW G X YX12_operand μ11 487 [some (vR 34 0), some (vI l1), some (vI l2), some (vI 2)] []))) ∧ ((¬ r10 = 0) → mW G X YX12_operand μ9 487 [some (vR 34 0), some (vI l1), some (vI l2), some (vI 1)] []))) ∧ ((μ7 34 0 3 = 2) → mW G X YX12_operand μ7 487 [some (vR 34 0), some (vI l1), some (vI l2), some (vI 0)] [])) ∧ ((¬ r8 = 0) → mW G X YX12_operand μ7 217 [some (vR 34 0), some (vI l1), some (vI l2), none] []))))))) ∧ ((¬ r2 = 0) → c_v G d YX12_opens [vR 34 0, vI 2] μ1 (fun μ65 => K 0 μ65)))) :
    mW G X YX12_operand μ 171 [some (vR 34 0), some (vI l1), some (vI l2), none] [] := by
  refine m_aload_n C dX12_operand_171 rfl ?_
  refine m_bipush C dX12_operand_172 (by omega) ?_
  refine f_callVi (As := [vI 40]) (st := []) C dX12_operand_174 ml_KilnBenchModel_238 rfl (by decide) rfl rfl rfl (Nat.le_of_ble_eq_true rfl) h (fun r2 μ1 h => ?_)
  refine m_if_eq (tgt := 187) C dX12_operand_177 (by decide) (fun c => ?_) (fun c => ?_)
  · have h := h.1 c
    refine m_aload_n C dX12_operand_187 rfl ?_
    refine m_ldc2 (x := 7170414) C dX12_operand_188 lc_KilnBenchModel_292 rfl ?_
    refine f_callVi (As := [vJ 7170414]) (st := []) C dX12_operand_191 ml_KilnBenchModel_312 rfl (by decide) rfl rfl rfl (Nat.le_of_ble_eq_true rfl) h (fun r4 μ3 h => ?_)
    refine m_if_ne (tgt := 217) C dX12_operand_194 (by decide) (fun c => ?_) (fun c => ?_)
    · have h := h.1 c
      exact h
    · have h := h.2 c
      refine m_aload_n C dX12_operand_197 rfl ?_
      refine m_ldc2 (x := 7168376) C dX12_operand_198 lc_KilnBenchModel_294 rfl ?_
      refine f_callVi (As := [vJ 7168376]) (st := []) C dX12_operand_201 ml_KilnBenchModel_312 rfl (by decide) rfl rfl rfl (Nat.le_of_ble_eq_true rfl) h (fun r6 μ5 h => ?_)
      refine m_if_ne (tgt := 217) C dX12_operand_204 (by decide) (fun c => ?_) (fun c => ?_)
      · have h := h.1 c
        exact h
      · have h := h.2 c
        refine m_aload_n C dX12_operand_207 rfl ?_
        refine m_ldc2 (x := 26982) C dX12_operand_208 lc_KilnBenchModel_282 rfl ?_
        refine f_callVi (As := [vJ 26982]) (st := []) C dX12_operand_211 ml_KilnBenchModel_312 rfl (by decide) rfl rfl rfl (Nat.le_of_ble_eq_true rfl) h (fun r8 μ7 h => ?_)
        refine m_if_eq (tgt := 313) C dX12_operand_214 (by decide) (fun c => ?_) (fun c => ?_)
        · have h := h.1 c
          refine m_aload_n C dX12_operand_313 rfl ?_
          refine f_getI C dX12_operand_314 fl_KilnBenchModel_20 rfl (by decide) (by decide) ?_
          refine m_iconst C dX12_operand_317 (by unfold in32; omega) ?_
          refine m_icmp_ne (tgt := 325) C dX12_operand_318 (by decide) (fun c => ?_) (fun c => ?_)
          · have h := h.1 c
            refine m_aload_n C dX12_operand_325 rfl ?_
            refine m_ldc2 (x := 1751474548) C dX12_operand_326 lc_KilnBenchModel_268 rfl ?_
            refine f_callVi (As := [vJ 1751474548]) (st := []) C dX12_operand_329 ml_KilnBenchModel_312 rfl (by decide) rfl rfl rfl (Nat.le_of_ble_eq_true rfl) h (fun r10 μ9 h => ?_)
            refine m_if_eq (tgt := 339) C dX12_operand_332 (by decide) (fun c => ?_) (fun c => ?_)
            · have h := h.1 c
              refine m_aload_n C dX12_operand_339 rfl ?_
              refine m_ldc2 (x := 2003133803) C dX12_operand_340 lc_KilnBenchModel_270 rfl ?_
              refine f_callVi (As := [vJ 2003133803]) (st := []) C dX12_operand_343 ml_KilnBenchModel_312 rfl (by decide) rfl rfl rfl (Nat.le_of_ble_eq_true rfl) h (fun r12 μ11 h => ?_)
              refine m_if_eq (tgt := 353) C dX12_operand_346 (by decide) (fun c => ?_) (fun c => ?_)
              · have h := h.1 c
                refine m_aload_n C dX12_operand_353 rfl ?_
                refine m_ldc2 (x := 1668047225) C dX12_operand_354 lc_KilnBenchModel_246 rfl ?_
                refine f_callVi (As := [vJ 1668047225]) (st := []) C dX12_operand_357 ml_KilnBenchModel_312 rfl (by decide) rfl rfl rfl (Nat.le_of_ble_eq_true rfl) h (fun r14 μ13 h => ?_)
                refine m_if_eq (tgt := 367) C dX12_operand_360 (by decide) (fun c => ?_) (fun c => ?_)
                · have h := h.1 c
                  refine m_aload_n C dX12_operand_367 rfl ?_
                  refine m_ldc2 (x := 1735551348) C dX12_operand_368 lc_KilnBenchModel_248 rfl ?_
                  refine f_callVi (As := [vJ 1735551348]) (st := []) C dX12_operand_371 ml_KilnBenchModel_312 rfl (by decide) rfl rfl rfl (Nat.le_of_ble_eq_true rfl) h (fun r16 μ15 h => ?_)
                  refine m_if_eq (tgt := 381) C dX12_operand_374 (by decide) (fun c => ?_) (fun c => ?_)
                  · have h := h.1 c
                    refine m_aload_n C dX12_operand_381 rfl ?_
                    refine m_ldc2 (x := 482854658917) C dX12_operand_382 lc_KilnBenchModel_272 rfl ?_
                    refine f_callVi (As := [vJ 482854658917]) (st := []) C dX12_operand_385 ml_KilnBenchModel_312 rfl (by decide) rfl rfl rfl (Nat.le_of_ble_eq_true rfl) h (fun r18 μ17 h => ?_)
                    refine m_if_eq (tgt := 395) C dX12_operand_388 (by decide) (fun c => ?_) (fun c => ?_)
                    · have h := h.1 c
                      refine m_aload_n C dX12_operand_395 rfl ?_
                      refine m_ldc2 (x := 491395114867) C dX12_operand_396 lc_KilnBenchModel_274 rfl ?_
                      refine f_callVi (As := [vJ 491395114867]) (st := []) C dX12_operand_399 ml_KilnBenchModel_312 rfl (by decide) rfl rfl rfl (Nat.le_of_ble_eq_true rfl) h (fun r20 μ19 h => ?_)
                      refine m_if_eq (tgt := 410) C dX12_operand_402 (by decide) (fun c => ?_) (fun c => ?_)
                      · have h := h.1 c
                        refine m_aload_n C dX12_operand_410 rfl ?_
                        refine m_ldc2 (x := 1852137842) C dX12_operand_411 lc_KilnBenchModel_276 rfl ?_
                        refine f_callVi (As := [vJ 1852137842]) (st := []) C dX12_operand_414 ml_KilnBenchModel_312 rfl (by decide) rfl rfl rfl (Nat.le_of_ble_eq_true rfl) h (fun r22 μ21 h => ?_)
                        refine m_if_eq (tgt := 425) C dX12_operand_417 (by decide) (fun c => ?_) (fun c => ?_)
                        · have h := h.1 c
                          refine m_aload_n C dX12_operand_425 rfl ?_
                          refine m_ldc2 (x := 444301145203) C dX12_operand_426 lc_KilnBenchModel_278 rfl ?_
                          refine f_callVi (As := [vJ 444301145203]) (st := []) C dX12_operand_429 ml_KilnBenchModel_312 rfl (by decide) rfl rfl rfl (Nat.le_of_ble_eq_true rfl) h (fun r24 μ23 h => ?_)
                          refine m_if_eq (tgt := 440) C dX12_operand_432 (by decide) (fun c => ?_) (fun c => ?_)
                          · have h := h.1 c
                            refine m_aload_n C dX12_operand_440 rfl ?_
                            refine m_ldc2 (x := 1919905645) C dX12_operand_441 lc_KilnBenchModel_252 rfl ?_
                            refine f_callVi (As := [vJ 1919905645]) (st := []) C dX12_operand_444 ml_KilnBenchModel_312 rfl (by decide) rfl rfl rfl (Nat.le_of_ble_eq_true rfl) h (fun r26 μ25 h => ?_)
                            refine m_if_eq (tgt := 455) C dX12_operand_447 (by decide) (fun c => ?_) (fun c => ?_)
                            · have h := h.1 c
                              refine m_aload_n C dX12_operand_455 rfl ?_
                              refine m_ldc2 (x := 1718971500) C dX12_operand_456 lc_KilnBenchModel_280 rfl ?_
                              refine f_callVi (As := [vJ 1718971500]) (st := []) C dX12_operand_459 ml_KilnBenchModel_312 rfl (by decide) rfl rfl rfl (Nat.le_of_ble_eq_true rfl) h (fun r28 μ27 h => ?_)
                              refine m_if_eq (tgt := 470) C dX12_operand_462 (by decide) (fun c => ?_) (fun c => ?_)
                              · have h := h.1 c
                                refine m_iconst C dX12_operand_470 (by unfold in32; omega) ?_
                                refine o_istore_n [some (vR 34 0), some (vI l1), some (vI l2), some (vI (-1))] C dX12_operand_471 (by decide) rfl ?_
                                refine m_iload_n C dX12_operand_472 rfl ?_
                                refine m_iconst C dX12_operand_473 (by unfold in32; omega) ?_
                                refine m_icmp_le (tgt := 487) C dX12_operand_474 (by decide) (fun c => ?_) (fun c => absurd c (by decide))
                                exact h
                              · have h := h.2 c
                                refine m_bipush C dX12_operand_465 (by omega) ?_
                                refine m_goto (tgt := 471) C dX12_operand_467 (by decide) ?_
                                refine o_istore_n [some (vR 34 0), some (vI l1), some (vI l2), some (vI 10)] C dX12_operand_471 (by decide) rfl ?_
                                refine m_iload_n C dX12_operand_472 rfl ?_
                                refine m_iconst C dX12_operand_473 (by unfold in32; omega) ?_
                                refine m_icmp_le (tgt := 487) C dX12_operand_474 (by decide) (fun c => absurd c (by decide)) (fun c => ?_)
                                refine m_aload_n C dX12_operand_477 rfl ?_
                                refine m_iload_n C dX12_operand_478 rfl ?_
                                refine f_callVi (As := [vI 10]) (st := []) C dX12_operand_479 ml_KilnBenchModel_322 rfl (by decide) rfl rfl rfl (Nat.le_of_ble_eq_true rfl) h (fun r32 μ31 h => ?_)
                                refine m_if_ne (tgt := 487) C dX12_operand_482 (by decide) (fun c => ?_) (fun c => ?_)
                                · have h := h.1 c
                                  exact h
                                · have h := h.2 c
                                  refine m_iconst C dX12_operand_485 (by unfold in32; omega) ?_
                                  refine o_istore_n [some (vR 34 0), some (vI l1), some (vI l2), some (vI (-1))] C dX12_operand_486 (by decide) rfl ?_
                                  exact h
                            · have h := h.2 c
                              refine m_bipush C dX12_operand_450 (by omega) ?_
                              refine m_goto (tgt := 471) C dX12_operand_452 (by decide) ?_
                              refine o_istore_n [some (vR 34 0), some (vI l1), some (vI l2), some (vI 9)] C dX12_operand_471 (by decide) rfl ?_
                              refine m_iload_n C dX12_operand_472 rfl ?_
                              refine m_iconst C dX12_operand_473 (by unfold in32; omega) ?_
                              refine m_icmp_le (tgt := 487) C dX12_operand_474 (by decide) (fun c => absurd c (by decide)) (fun c => ?_)
                              refine m_aload_n C dX12_operand_477 rfl ?_
                              refine m_iload_n C dX12_operand_478 rfl ?_
                              refine f_callVi (As := [vI 9]) (st := []) C dX12_operand_479 ml_KilnBenchModel_322 rfl (by decide) rfl rfl rfl (Nat.le_of_ble_eq_true rfl) h (fun r36 μ35 h => ?_)
                              refine m_if_ne (tgt := 487) C dX12_operand_482 (by decide) (fun c => ?_) (fun c => ?_)
                              · have h := h.1 c
                                exact h
                              · have h := h.2 c
                                refine m_iconst C dX12_operand_485 (by unfold in32; omega) ?_
                                refine o_istore_n [some (vR 34 0), some (vI l1), some (vI l2), some (vI (-1))] C dX12_operand_486 (by decide) rfl ?_
                                exact h
                          · have h := h.2 c
                            refine m_bipush C dX12_operand_435 (by omega) ?_
                            refine m_goto (tgt := 471) C dX12_operand_437 (by decide) ?_
                            refine o_istore_n [some (vR 34 0), some (vI l1), some (vI l2), some (vI 8)] C dX12_operand_471 (by decide) rfl ?_
                            refine m_iload_n C dX12_operand_472 rfl ?_
                            refine m_iconst C dX12_operand_473 (by unfold in32; omega) ?_
                            refine m_icmp_le (tgt := 487) C dX12_operand_474 (by decide) (fun c => absurd c (by decide)) (fun c => ?_)
                            refine m_aload_n C dX12_operand_477 rfl ?_
                            refine m_iload_n C dX12_operand_478 rfl ?_
                            refine f_callVi (As := [vI 8]) (st := []) C dX12_operand_479 ml_KilnBenchModel_322 rfl (by decide) rfl rfl rfl (Nat.le_of_ble_eq_true rfl) h (fun r40 μ39 h => ?_)
                            refine m_if_ne (tgt := 487) C dX12_operand_482 (by decide) (fun c => ?_) (fun c => ?_)
                            · have h := h.1 c
                              exact h
                            · have h := h.2 c
                              refine m_iconst C dX12_operand_485 (by unfold in32; omega) ?_
                              refine o_istore_n [some (vR 34 0), some (vI l1), some (vI l2), some (vI (-1))] C dX12_operand_486 (by decide) rfl ?_
                              exact h
                        · have h := h.2 c
                          refine m_bipush C dX12_operand_420 (by omega) ?_
                          refine m_goto (tgt := 471) C dX12_operand_422 (by decide) ?_
                          refine o_istore_n [some (vR 34 0), some (vI l1), some (vI l2), some (vI 7)] C dX12_operand_471 (by decide) rfl ?_
                          refine m_iload_n C dX12_operand_472 rfl ?_
                          refine m_iconst C dX12_operand_473 (by unfold in32; omega) ?_
                          refine m_icmp_le (tgt := 487) C dX12_operand_474 (by decide) (fun c => absurd c (by decide)) (fun c => ?_)
                          refine m_aload_n C dX12_operand_477 rfl ?_
                          refine m_iload_n C dX12_operand_478 rfl ?_
                          refine f_callVi (As := [vI 7]) (st := []) C dX12_operand_479 ml_KilnBenchModel_322 rfl (by decide) rfl rfl rfl (Nat.le_of_ble_eq_true rfl) h (fun r44 μ43 h => ?_)
                          refine m_if_ne (tgt := 487) C dX12_operand_482 (by decide) (fun c => ?_) (fun c => ?_)
                          · have h := h.1 c
                            exact h
                          · have h := h.2 c
                            refine m_iconst C dX12_operand_485 (by unfold in32; omega) ?_
                            refine o_istore_n [some (vR 34 0), some (vI l1), some (vI l2), some (vI (-1))] C dX12_operand_486 (by decide) rfl ?_
                            exact h
                      · have h := h.2 c
                        refine m_bipush C dX12_operand_405 (by omega) ?_
                        refine m_goto (tgt := 471) C dX12_operand_407 (by decide) ?_
                        refine o_istore_n [some (vR 34 0), some (vI l1), some (vI l2), some (vI 6)] C dX12_operand_471 (by decide) rfl ?_
                        refine m_iload_n C dX12_operand_472 rfl ?_
                        refine m_iconst C dX12_operand_473 (by unfold in32; omega) ?_
                        refine m_icmp_le (tgt := 487) C dX12_operand_474 (by decide) (fun c => absurd c (by decide)) (fun c => ?_)
                        refine m_aload_n C dX12_operand_477 rfl ?_
                        refine m_iload_n C dX12_operand_478 rfl ?_
                        refine f_callVi (As := [vI 6]) (st := []) C dX12_operand_479 ml_KilnBenchModel_322 rfl (by decide) rfl rfl rfl (Nat.le_of_ble_eq_true rfl) h (fun r48 μ47 h => ?_)
                        refine m_if_ne (tgt := 487) C dX12_operand_482 (by decide) (fun c => ?_) (fun c => ?_)
                        · have h := h.1 c
                          exact h
                        · have h := h.2 c
                          refine m_iconst C dX12_operand_485 (by unfold in32; omega) ?_
                          refine o_istore_n [some (vR 34 0), some (vI l1), some (vI l2), some (vI (-1))] C dX12_operand_486 (by decide) rfl ?_
                          exact h
                    · have h := h.2 c
                      refine m_iconst C dX12_operand_391 (by unfold in32; omega) ?_
                      refine m_goto (tgt := 471) C dX12_operand_392 (by decide) ?_
                      refine o_istore_n [some (vR 34 0), some (vI l1), some (vI l2), some (vI 5)] C dX12_operand_471 (by decide) rfl ?_
                      refine m_iload_n C dX12_operand_472 rfl ?_
                      refine m_iconst C dX12_operand_473 (by unfold in32; omega) ?_
                      refine m_icmp_le (tgt := 487) C dX12_operand_474 (by decide) (fun c => absurd c (by decide)) (fun c => ?_)
                      refine m_aload_n C dX12_operand_477 rfl ?_
                      refine m_iload_n C dX12_operand_478 rfl ?_
                      refine f_callVi (As := [vI 5]) (st := []) C dX12_operand_479 ml_KilnBenchModel_322 rfl (by decide) rfl rfl rfl (Nat.le_of_ble_eq_true rfl) h (fun r52 μ51 h => ?_)
                      refine m_if_ne (tgt := 487) C dX12_operand_482 (by decide) (fun c => ?_) (fun c => ?_)
                      · have h := h.1 c
                        exact h
                      · have h := h.2 c
                        refine m_iconst C dX12_operand_485 (by unfold in32; omega) ?_
                        refine o_istore_n [some (vR 34 0), some (vI l1), some (vI l2), some (vI (-1))] C dX12_operand_486 (by decide) rfl ?_
                        exact h
                  · have h := h.2 c
                    refine m_iconst C dX12_operand_377 (by unfold in32; omega) ?_
                    refine m_goto (tgt := 471) C dX12_operand_378 (by decide) ?_
                    refine o_istore_n [some (vR 34 0), some (vI l1), some (vI l2), some (vI 4)] C dX12_operand_471 (by decide) rfl ?_
                    refine m_iload_n C dX12_operand_472 rfl ?_
                    refine m_iconst C dX12_operand_473 (by unfold in32; omega) ?_
                    refine m_icmp_le (tgt := 487) C dX12_operand_474 (by decide) (fun c => absurd c (by decide)) (fun c => ?_)
                    refine m_aload_n C dX12_operand_477 rfl ?_
                    refine m_iload_n C dX12_operand_478 rfl ?_
                    refine f_callVi (As := [vI 4]) (st := []) C dX12_operand_479 ml_KilnBenchModel_322 rfl (by decide) rfl rfl rfl (Nat.le_of_ble_eq_true rfl) h (fun r56 μ55 h => ?_)
                    refine m_if_ne (tgt := 487) C dX12_operand_482 (by decide) (fun c => ?_) (fun c => ?_)
                    · have h := h.1 c
                      exact h
                    · have h := h.2 c
                      refine m_iconst C dX12_operand_485 (by unfold in32; omega) ?_
                      refine o_istore_n [some (vR 34 0), some (vI l1), some (vI l2), some (vI (-1))] C dX12_operand_486 (by decide) rfl ?_
                      exact h
                · have h := h.2 c
                  refine m_iconst C dX12_operand_363 (by unfold in32; omega) ?_
                  refine m_goto (tgt := 471) C dX12_operand_364 (by decide) ?_
                  refine o_istore_n [some (vR 34 0), some (vI l1), some (vI l2), some (vI 3)] C dX12_operand_471 (by decide) rfl ?_
                  refine m_iload_n C dX12_operand_472 rfl ?_
                  refine m_iconst C dX12_operand_473 (by unfold in32; omega) ?_
                  refine m_icmp_le (tgt := 487) C dX12_operand_474 (by decide) (fun c => absurd c (by decide)) (fun c => ?_)
                  refine m_aload_n C dX12_operand_477 rfl ?_
                  refine m_iload_n C dX12_operand_478 rfl ?_
                  refine f_callVi (As := [vI 3]) (st := []) C dX12_operand_479 ml_KilnBenchModel_322 rfl (by decide) rfl rfl rfl (Nat.le_of_ble_eq_true rfl) h (fun r60 μ59 h => ?_)
                  refine m_if_ne (tgt := 487) C dX12_operand_482 (by decide) (fun c => ?_) (fun c => ?_)
                  · have h := h.1 c
                    exact h
                  · have h := h.2 c
                    refine m_iconst C dX12_operand_485 (by unfold in32; omega) ?_
                    refine o_istore_n [some (vR 34 0), some (vI l1), some (vI l2), some (vI (-1))] C dX12_operand_486 (by decide) rfl ?_
                    exact h
              · have h := h.2 c
                refine m_iconst C dX12_operand_349 (by unfold in32; omega) ?_
                refine m_goto (tgt := 471) C dX12_operand_350 (by decide) ?_
                refine o_istore_n [some (vR 34 0), some (vI l1), some (vI l2), some (vI 2)] C dX12_operand_471 (by decide) rfl ?_
                refine m_iload_n C dX12_operand_472 rfl ?_
                refine m_iconst C dX12_operand_473 (by unfold in32; omega) ?_
                refine m_icmp_le (tgt := 487) C dX12_operand_474 (by decide) (fun c => ?_) (fun c => absurd c (by decide))
                exact h
            · have h := h.2 c
              refine m_iconst C dX12_operand_335 (by unfold in32; omega) ?_
              refine m_goto (tgt := 471) C dX12_operand_336 (by decide) ?_
              refine o_istore_n [some (vR 34 0), some (vI l1), some (vI l2), some (vI 1)] C dX12_operand_471 (by decide) rfl ?_
              refine m_iload_n C dX12_operand_472 rfl ?_
              refine m_iconst C dX12_operand_473 (by unfold in32; omega) ?_
              refine m_icmp_le (tgt := 487) C dX12_operand_474 (by decide) (fun c => ?_) (fun c => absurd c (by decide))
              exact h
          · have h := h.2 c
            refine m_iconst C dX12_operand_321 (by unfold in32; omega) ?_
            refine m_goto (tgt := 471) C dX12_operand_322 (by decide) ?_
            refine o_istore_n [some (vR 34 0), some (vI l1), some (vI l2), some (vI 0)] C dX12_operand_471 (by decide) rfl ?_
            refine m_iload_n C dX12_operand_472 rfl ?_
            refine m_iconst C dX12_operand_473 (by unfold in32; omega) ?_
            refine m_icmp_le (tgt := 487) C dX12_operand_474 (by decide) (fun c => ?_) (fun c => absurd c (by decide))
            exact h
        · have h := h.2 c
          exact h
  · have h := h.2 c
    refine m_aload_n C dX12_operand_180 rfl ?_
    refine m_iconst C dX12_operand_181 (by unfold in32; omega) ?_
    refine f_callVv (As := [vI 2]) (st := []) C dX12_operand_182 ml_KilnBenchModel_319 rfl (by decide) rfl rfl rfl (Nat.le_of_ble_eq_true rfl) h (fun μ65 h => ?_)
    refine m_iconst C dX12_operand_185 (by unfold in32; omega) ?_
    exact f_zret C R rfl dX12_operand_186 (by decide) h

set_option maxRecDepth 20000 in
theorem VX12_operand_217 {G : m_G} {X : m_X} {d : Nat} {K : Int → m_M → Prop} (C : mC G X YX12_operand (d + 1)) (R : r_i G X K) {μ : m_M} {l1 : Int} {l2 : Int}
    (h : c_i G d YX12_isWord [vR 34 0, vJ 7170414] μ (fun r2 μ1 => ((r2 = 0) → c_i G d YX12_isWord [vR 34 0, vJ 7168376] μ1 (fun r4 μ3 => ((r4 = 0) → c_v G d YX12_ahead [vR 34 0] μ3 (fun μ6 => c_v G d YX12_lex [vR 34 0] μ6 (fun μ7 => c_i G d YX12_isSign [vR 34 0, vI 40] μ7 (fun r9 μ8 => ((¬ r9 = 0) → mW G X YX12_operand μ8 276 [some (vR 34 0), some (vI l1), some (vI l2), some (vI 44)] []) ∧ ((r9 = 0) → c_v G d YX12_blame [vR 34 0, vI 1, vI (μ8 34 0 4)] μ8 (fun μ10 => mW G X YX12_operand μ10 276 [some (vR 34 0), some (vI l1), some (vI l2), some (vI 44)] [])))))) ∧ ((¬ r4 = 0) → c_v G d YX12_ahead [vR 34 0] μ3 (fun μ12 => c_v G d YX12_lex [vR 34 0] μ12 (fun μ13 => c_i G d YX12_isSign [vR 34 0, vI 40] μ13 (fun r15 μ14 => ((¬ r15 = 0) → mW G X YX12_operand μ14 276 [some (vR 34 0), some (vI l1), some (vI l2), some (vI 37)] []) ∧ ((r15 = 0) → c_v G d YX12_blame [vR 34 0, vI 1, vI (μ14 34 0 4)] μ14 (fun μ16 => mW G X YX12_operand μ16 276 [some (vR 34 0), some (vI l1), some (vI l2), some (vI 37)] [])))))))) ∧ ((¬ r2 = 0) → c_v G d YX12_ahead [vR 34 0] μ1 (fun μ18 => c_v G d YX12_lex [vR 34 0] μ18 (fun μ19 => c_i G d YX12_isSign [vR 34 0, vI 40] μ19 (fun r21 μ20 => ((¬ r21 = 0) → mW G X YX12_operand μ20 276 [some (vR 34 0), some (vI l1), some (vI l2), some (vI 36)] []) ∧ ((r21 = 0) → c_v G d YX12_blame [vR 34 0, vI 1, vI (μ20 34 0 4)] μ20 (fun μ22 => mW G X YX12_operand μ22 276 [some (vR 34 0), some (vI l1), some (vI l2), some (vI 36)] [])))))))) :
    mW G X YX12_operand μ 217 [some (vR 34 0), some (vI l1), some (vI l2), none] [] := by
  refine m_aload_n C dX12_operand_217 rfl ?_
  refine m_ldc2 (x := 7170414) C dX12_operand_218 lc_KilnBenchModel_292 rfl ?_
  refine f_callVi (As := [vJ 7170414]) (st := []) C dX12_operand_221 ml_KilnBenchModel_312 rfl (by decide) rfl rfl rfl (Nat.le_of_ble_eq_true rfl) h (fun r2 μ1 h => ?_)
  refine m_if_eq (tgt := 232) C dX12_operand_224 (by decide) (fun c => ?_) (fun c => ?_)
  · have h := h.1 c
    refine m_aload_n C dX12_operand_232 rfl ?_
    refine m_ldc2 (x := 7168376) C dX12_operand_233 lc_KilnBenchModel_294 rfl ?_
    refine f_callVi (As := [vJ 7168376]) (st := []) C dX12_operand_236 ml_KilnBenchModel_312 rfl (by decide) rfl rfl rfl (Nat.le_of_ble_eq_true rfl) h (fun r4 μ3 h => ?_)
    refine m_if_eq (tgt := 247) C dX12_operand_239 (by decide) (fun c => ?_) (fun c => ?_)
    · have h := h.1 c
      refine m_bipush C dX12_operand_247 (by omega) ?_
      refine o_istore_n [some (vR 34 0), some (vI l1), some (vI l2), some (vI 44)] C dX12_operand_249 (by decide) rfl ?_
      refine m_aload_n C dX12_operand_250 rfl ?_
      refine f_callVv (As := []) (st := []) C dX12_operand_251 ml_KilnBenchModel_241 rfl (by decide) rfl rfl rfl (Nat.le_of_ble_eq_true rfl) h (fun μ6 h => ?_)
      refine m_aload_n C dX12_operand_254 rfl ?_
      refine f_callVv (As := []) (st := []) C dX12_operand_255 ml_KilnBenchModel_235 rfl (by decide) rfl rfl rfl (Nat.le_of_ble_eq_true rfl) h (fun μ7 h => ?_)
      refine m_aload_n C dX12_operand_258 rfl ?_
      refine m_bipush C dX12_operand_259 (by omega) ?_
      refine f_callVi (As := [vI 40]) (st := []) C dX12_operand_261 ml_KilnBenchModel_238 rfl (by decide) rfl rfl rfl (Nat.le_of_ble_eq_true rfl) h (fun r9 μ8 h => ?_)
      refine m_if_ne (tgt := 276) C dX12_operand_264 (by decide) (fun c => ?_) (fun c => ?_)
      · have h := h.1 c
        exact h
      · have h := h.2 c
        refine m_aload_n C dX12_operand_267 rfl ?_
        refine m_iconst C dX12_operand_268 (by unfold in32; omega) ?_
        refine m_aload_n C dX12_operand_269 rfl ?_
        refine f_getI C dX12_operand_270 fl_KilnBenchModel_23 rfl (by decide) (by decide) ?_
        refine f_callVv (As := [vI 1, vI (μ8 34 0 4)]) (st := []) C dX12_operand_273 ml_KilnBenchModel_224 rfl (by decide) rfl rfl rfl (Nat.le_of_ble_eq_true rfl) h (fun μ10 h => ?_)
        exact h
    · have h := h.2 c
      refine m_bipush C dX12_operand_242 (by omega) ?_
      refine m_goto (tgt := 249) C dX12_operand_244 (by decide) ?_
      refine o_istore_n [some (vR 34 0), some (vI l1), some (vI l2), some (vI 37)] C dX12_operand_249 (by decide) rfl ?_
      refine m_aload_n C dX12_operand_250 rfl ?_
      refine f_callVv (As := []) (st := []) C dX12_operand_251 ml_KilnBenchModel_241 rfl (by decide) rfl rfl rfl (Nat.le_of_ble_eq_true rfl) h (fun μ12 h => ?_)
      refine m_aload_n C dX12_operand_254 rfl ?_
      refine f_callVv (As := []) (st := []) C dX12_operand_255 ml_KilnBenchModel_235 rfl (by decide) rfl rfl rfl (Nat.le_of_ble_eq_true rfl) h (fun μ13 h => ?_)
      refine m_aload_n C dX12_operand_258 rfl ?_
      refine m_bipush C dX12_operand_259 (by omega) ?_
      refine f_callVi (As := [vI 40]) (st := []) C dX12_operand_261 ml_KilnBenchModel_238 rfl (by decide) rfl rfl rfl (Nat.le_of_ble_eq_true rfl) h (fun r15 μ14 h => ?_)
      refine m_if_ne (tgt := 276) C dX12_operand_264 (by decide) (fun c => ?_) (fun c => ?_)
      · have h := h.1 c
        exact h
      · have h := h.2 c
        refine m_aload_n C dX12_operand_267 rfl ?_
        refine m_iconst C dX12_operand_268 (by unfold in32; omega) ?_
        refine m_aload_n C dX12_operand_269 rfl ?_
        refine f_getI C dX12_operand_270 fl_KilnBenchModel_23 rfl (by decide) (by decide) ?_
        refine f_callVv (As := [vI 1, vI (μ14 34 0 4)]) (st := []) C dX12_operand_273 ml_KilnBenchModel_224 rfl (by decide) rfl rfl rfl (Nat.le_of_ble_eq_true rfl) h (fun μ16 h => ?_)
        exact h
  · have h := h.2 c
    refine m_bipush C dX12_operand_227 (by omega) ?_
    refine m_goto (tgt := 249) C dX12_operand_229 (by decide) ?_
    refine o_istore_n [some (vR 34 0), some (vI l1), some (vI l2), some (vI 36)] C dX12_operand_249 (by decide) rfl ?_
    refine m_aload_n C dX12_operand_250 rfl ?_
    refine f_callVv (As := []) (st := []) C dX12_operand_251 ml_KilnBenchModel_241 rfl (by decide) rfl rfl rfl (Nat.le_of_ble_eq_true rfl) h (fun μ18 h => ?_)
    refine m_aload_n C dX12_operand_254 rfl ?_
    refine f_callVv (As := []) (st := []) C dX12_operand_255 ml_KilnBenchModel_235 rfl (by decide) rfl rfl rfl (Nat.le_of_ble_eq_true rfl) h (fun μ19 h => ?_)
    refine m_aload_n C dX12_operand_258 rfl ?_
    refine m_bipush C dX12_operand_259 (by omega) ?_
    refine f_callVi (As := [vI 40]) (st := []) C dX12_operand_261 ml_KilnBenchModel_238 rfl (by decide) rfl rfl rfl (Nat.le_of_ble_eq_true rfl) h (fun r21 μ20 h => ?_)
    refine m_if_ne (tgt := 276) C dX12_operand_264 (by decide) (fun c => ?_) (fun c => ?_)
    · have h := h.1 c
      exact h
    · have h := h.2 c
      refine m_aload_n C dX12_operand_267 rfl ?_
      refine m_iconst C dX12_operand_268 (by unfold in32; omega) ?_
      refine m_aload_n C dX12_operand_269 rfl ?_
      refine f_getI C dX12_operand_270 fl_KilnBenchModel_23 rfl (by decide) (by decide) ?_
      refine f_callVv (As := [vI 1, vI (μ20 34 0 4)]) (st := []) C dX12_operand_273 ml_KilnBenchModel_224 rfl (by decide) rfl rfl rfl (Nat.le_of_ble_eq_true rfl) h (fun μ22 h => ?_)
      exact h

set_option maxRecDepth 20000 in
theorem VX12_operand_276 {G : m_G} {X : m_X} {d : Nat} {K : Int → m_M → Prop} (C : mC G X YX12_operand (d + 1)) (R : r_i G X K) {μ : m_M} {l1 : Int} {l2 : Int} {l3 : Int}
    (h : ((¬ l3 = 44) → c_v G d YX12_opens [vR 34 0, vI 3] μ (fun μ1 => ((¬ (μ1 34 0 8) = 0) → K 0 μ1) ∧ ((μ1 34 0 8 = 0) → (0 ≤ w32 ((μ1 34 0 36) - 1) ∧ w32 ((μ1 34 0 36) - 1) < 20) ∧ ∀ μ2 : m_M, μ2 = m_up μ1 34 35 (w32 ((μ1 34 0 36) - 1)).toNat l3 → K 0 μ2))) ∧ ((l3 = 44) → c_v G d YX12_opens [vR 34 0, vI 6] μ (fun μ3 => ((¬ (μ3 34 0 8) = 0) → K 0 μ3) ∧ ((μ3 34 0 8 = 0) → (0 ≤ w32 ((μ3 34 0 36) - 1) ∧ w32 ((μ3 34 0 36) - 1) < 20) ∧ ∀ μ4 : m_M, μ4 = m_up μ3 34 35 (w32 ((μ3 34 0 36) - 1)).toNat l3 → K 0 μ4)))) :
    mW G X YX12_operand μ 276 [some (vR 34 0), some (vI l1), some (vI l2), some (vI l3)] [] := by
  refine m_aload_n C dX12_operand_276 rfl ?_
  refine m_iload_n C dX12_operand_277 rfl ?_
  refine m_bipush C dX12_operand_278 (by omega) ?_
  refine m_icmp_ne (tgt := 288) C dX12_operand_280 (by decide) (fun c => ?_) (fun c => ?_)
  · have h := h.1 c
    refine m_iconst C dX12_operand_288 (by unfold in32; omega) ?_
    refine f_callVv (As := [vI 3]) (st := []) C dX12_operand_289 ml_KilnBenchModel_319 rfl (by decide) rfl rfl rfl (Nat.le_of_ble_eq_true rfl) h (fun μ1 h => ?_)
    refine m_aload_n C dX12_operand_292 rfl ?_
    refine f_getI C dX12_operand_293 fl_KilnBenchModel_36 rfl (by decide) (by decide) ?_
    refine m_if_ne (tgt := 311) C dX12_operand_296 (by decide) (fun c => ?_) (fun c => ?_)
    · have h := h.1 c
      refine m_iconst C dX12_operand_311 (by unfold in32; omega) ?_
      exact f_zret C R rfl dX12_operand_312 (by decide) h
    · have h := h.2 c
      refine m_aload_n C dX12_operand_299 rfl ?_
      refine f_getA C dX12_operand_300 fl_KilnBenchModel_116 rfl (by decide) (by decide) (by decide) (by decide) ?_
      refine m_aload_n C dX12_operand_303 rfl ?_
      refine f_getI C dX12_operand_304 fl_KilnBenchModel_122 rfl (by decide) (by decide) ?_
      refine m_iconst C dX12_operand_307 (by unfold in32; omega) ?_
      refine m_isub C dX12_operand_308 ?_
      refine m_iload_n C dX12_operand_309 rfl ?_
      obtain ⟨hb, h⟩ := h
      refine f_iast C dX12_operand_310 (m_arO (a := 0) (len := 20) rfl rfl) (by decide) hb ?_
      refine n_mem (fun μ2 eμ2 => ?_)
      have h := h μ2 eμ2
      refine m_iconst C dX12_operand_311 (by unfold in32; omega) ?_
      exact f_zret C R rfl dX12_operand_312 (by decide) h
  · have h := h.2 c
    refine m_bipush C dX12_operand_283 (by omega) ?_
    refine m_goto (tgt := 289) C dX12_operand_285 (by decide) ?_
    refine f_callVv (As := [vI 6]) (st := []) C dX12_operand_289 ml_KilnBenchModel_319 rfl (by decide) rfl rfl rfl (Nat.le_of_ble_eq_true rfl) h (fun μ3 h => ?_)
    refine m_aload_n C dX12_operand_292 rfl ?_
    refine f_getI C dX12_operand_293 fl_KilnBenchModel_36 rfl (by decide) (by decide) ?_
    refine m_if_ne (tgt := 311) C dX12_operand_296 (by decide) (fun c => ?_) (fun c => ?_)
    · have h := h.1 c
      refine m_iconst C dX12_operand_311 (by unfold in32; omega) ?_
      exact f_zret C R rfl dX12_operand_312 (by decide) h
    · have h := h.2 c
      refine m_aload_n C dX12_operand_299 rfl ?_
      refine f_getA C dX12_operand_300 fl_KilnBenchModel_116 rfl (by decide) (by decide) (by decide) (by decide) ?_
      refine m_aload_n C dX12_operand_303 rfl ?_
      refine f_getI C dX12_operand_304 fl_KilnBenchModel_122 rfl (by decide) (by decide) ?_
      refine m_iconst C dX12_operand_307 (by unfold in32; omega) ?_
      refine m_isub C dX12_operand_308 ?_
      refine m_iload_n C dX12_operand_309 rfl ?_
      obtain ⟨hb, h⟩ := h
      refine f_iast C dX12_operand_310 (m_arO (a := 0) (len := 20) rfl rfl) (by decide) hb ?_
      refine n_mem (fun μ4 eμ4 => ?_)
      have h := h μ4 eμ4
      refine m_iconst C dX12_operand_311 (by unfold in32; omega) ?_
      exact f_zret C R rfl dX12_operand_312 (by decide) h

set_option maxRecDepth 20000 in
theorem VX12_operand_487 {G : m_G} {X : m_X} {d : Nat} {K : Int → m_M → Prop} (C : mC G X YX12_operand (d + 1)) (R : r_i G X K) {μ : m_M} {l1 : Int} {l2 : Int} {l3 : Int}
    (h : ((¬ l3 = (-1)) → ((μ 34 0 8 ≤ 0) → c_v G d YX12_add [vR 34 0, vI l3, vI (μ 34 0 6)] μ (fun μ1 => c_v G d YX12_ahead [vR 34 0] μ1 (fun μ2 => K 1 μ2))) ∧ ((¬ μ 34 0 8 ≤ 0) → K 1 μ)) ∧ ((l3 = (-1)) → c_v G d YX12_blame [vR 34 0, vI 1, vI (μ 34 0 4)] μ (fun μ3 => ((μ3 34 0 8 ≤ 0) → c_v G d YX12_add [vR 34 0, vI l3, vI (μ3 34 0 6)] μ3 (fun μ4 => c_v G d YX12_ahead [vR 34 0] μ4 (fun μ5 => K 1 μ5))) ∧ ((¬ μ3 34 0 8 ≤ 0) → K 1 μ3)))) :
    mW G X YX12_operand μ 487 [some (vR 34 0), some (vI l1), some (vI l2), some (vI l3)] [] := by
  refine m_iload_n C dX12_operand_487 rfl ?_
  refine m_iconst C dX12_operand_488 (by unfold in32; omega) ?_
  refine m_icmp_ne (tgt := 501) C dX12_operand_489 (by decide) (fun c => ?_) (fun c => ?_)
  · have h := h.1 c
    refine m_aload_n C dX12_operand_501 rfl ?_
    refine f_getI C dX12_operand_502 fl_KilnBenchModel_36 rfl (by decide) (by decide) ?_
    refine m_if_le (tgt := 510) C dX12_operand_505 (by decide) (fun c => ?_) (fun c => ?_)
    · have h := h.1 c
      refine m_aload_n C dX12_operand_510 rfl ?_
      refine m_iload_n C dX12_operand_511 rfl ?_
      refine m_aload_n C dX12_operand_512 rfl ?_
      refine f_getI C dX12_operand_513 fl_KilnBenchModel_29 rfl (by decide) (by decide) ?_
      refine f_callVv (As := [vI l3, vI (μ 34 0 6)]) (st := []) C dX12_operand_516 ml_KilnBenchModel_303 rfl (by decide) rfl rfl rfl (Nat.le_of_ble_eq_true rfl) h (fun μ1 h => ?_)
      refine m_aload_n C dX12_operand_519 rfl ?_
      refine f_callVv (As := []) (st := []) C dX12_operand_520 ml_KilnBenchModel_241 rfl (by decide) rfl rfl rfl (Nat.le_of_ble_eq_true rfl) h (fun μ2 h => ?_)
      refine m_iconst C dX12_operand_523 (by unfold in32; omega) ?_
      exact f_zret C R rfl dX12_operand_524 (by decide) h
    · have h := h.2 c
      refine m_iconst C dX12_operand_508 (by unfold in32; omega) ?_
      exact f_zret C R rfl dX12_operand_509 (by decide) h
  · have h := h.2 c
    refine m_aload_n C dX12_operand_492 rfl ?_
    refine m_iconst C dX12_operand_493 (by unfold in32; omega) ?_
    refine m_aload_n C dX12_operand_494 rfl ?_
    refine f_getI C dX12_operand_495 fl_KilnBenchModel_23 rfl (by decide) (by decide) ?_
    refine f_callVv (As := [vI 1, vI (μ 34 0 4)]) (st := []) C dX12_operand_498 ml_KilnBenchModel_224 rfl (by decide) rfl rfl rfl (Nat.le_of_ble_eq_true rfl) h (fun μ3 h => ?_)
    refine m_aload_n C dX12_operand_501 rfl ?_
    refine f_getI C dX12_operand_502 fl_KilnBenchModel_36 rfl (by decide) (by decide) ?_
    refine m_if_le (tgt := 510) C dX12_operand_505 (by decide) (fun c => ?_) (fun c => ?_)
    · have h := h.1 c
      refine m_aload_n C dX12_operand_510 rfl ?_
      refine m_iload_n C dX12_operand_511 rfl ?_
      refine m_aload_n C dX12_operand_512 rfl ?_
      refine f_getI C dX12_operand_513 fl_KilnBenchModel_29 rfl (by decide) (by decide) ?_
      refine f_callVv (As := [vI l3, vI (μ3 34 0 6)]) (st := []) C dX12_operand_516 ml_KilnBenchModel_303 rfl (by decide) rfl rfl rfl (Nat.le_of_ble_eq_true rfl) h (fun μ4 h => ?_)
      refine m_aload_n C dX12_operand_519 rfl ?_
      refine f_callVv (As := []) (st := []) C dX12_operand_520 ml_KilnBenchModel_241 rfl (by decide) rfl rfl rfl (Nat.le_of_ble_eq_true rfl) h (fun μ5 h => ?_)
      refine m_iconst C dX12_operand_523 (by unfold in32; omega) ?_
      exact f_zret C R rfl dX12_operand_524 (by decide) h
    · have h := h.2 c
      refine m_iconst C dX12_operand_508 (by unfold in32; omega) ?_
      exact f_zret C R rfl dX12_operand_509 (by decide) h

set_option maxRecDepth 20000 in
theorem VX12_goesOn_0 {G : m_G} {X : m_X} {d : Nat} {K : Int → m_M → Prop} (C : mC G X YX12_goesOn (d + 1)) (R : r_i G X K) {μ : m_M}
    (h : c_v G d YX12_lex [vR 34 0] μ (fun μ1 => ((μ1 34 0 8 ≤ 0) → ∀ x2 : Int, x2 = w32 ((μ1 34 0 36) - 1) → (0 ≤ x2 ∧ x2 < 20) ∧ ∀ x3 : Int, x3 = μ1 34 32 x2.toNat → c_i G d YX12_isTest [vI x3] μ1 (fun r5 μ4 => (0 ≤ x2 ∧ x2 < 20) ∧ ((2 ≤ μ4 34 33 x2.toNat) → mW G X YX12_goesOn μ4 188 [some (vR 34 0), some (vI x2), some (vI x3), some (vI r5), none] []) ∧ ((¬ 2 ≤ μ4 34 33 x2.toNat) → c_i G d YX12_isSign [vR 34 0, vI 43] μ4 (fun r8 μ7 => ((¬ r8 = 0) → mW G X YX12_goesOn μ7 87 [some (vR 34 0), some (vI x2), some (vI x3), some (vI r5), none] []) ∧ ((r8 = 0) → c_i G d YX12_isSign [vR 34 0, vI 45] μ7 (fun r10 μ9 => ((¬ r10 = 0) → mW G X YX12_goesOn μ9 87 [some (vR 34 0), some (vI x2), some (vI x3), some (vI r5), none] []) ∧ ((r10 = 0) → c_i G d YX12_isSign [vR 34 0, vI 42] μ9 (fun r12 μ11 => ((¬ r12 = 0) → mW G X YX12_goesOn μ11 87 [some (vR 34 0), some (vI x2), some (vI x3), some (vI r5), none] []) ∧ ((r12 = 0) → c_i G d YX12_isSign [vR 34 0, vI 47] μ11 (fun r14 μ13 => ((¬ r14 = 0) → mW G X YX12_goesOn μ13 87 [some (vR 34 0), some (vI x2), some (vI x3), some (vI r5), none] []) ∧ ((r14 = 0) → c_i G d YX12_isSign [vR 34 0, vI 37] μ13 (fun r16 μ15 => ((r16 = 0) → mW G X YX12_goesOn μ15 188 [some (vR 34 0), some (vI x2), some (vI x3), some (vI r5), none] []) ∧ ((¬ r16 = 0) → mW G X YX12_goesOn μ15 87 [some (vR 34 0), some (vI x2), some (vI x3), some (vI r5), none] []))))))))))))) ∧ ((¬ μ1 34 0 8 ≤ 0) → K 0 μ1))) :
    mW G X YX12_goesOn μ 0 [some (vR 34 0), none, none, none, none] [] := by
  refine m_aload_n C dX12_goesOn_0 rfl ?_
  refine f_callVv (As := []) (st := []) C dX12_goesOn_1 ml_KilnBenchModel_235 rfl (by decide) rfl rfl rfl (Nat.le_of_ble_eq_true rfl) h (fun μ1 h => ?_)
  refine m_aload_n C dX12_goesOn_4 rfl ?_
  refine f_getI C dX12_goesOn_5 fl_KilnBenchModel_36 rfl (by decide) (by decide) ?_
  refine m_if_le (tgt := 13) C dX12_goesOn_8 (by decide) (fun c => ?_) (fun c => ?_)
  · have h := h.1 c
    refine m_aload_n C dX12_goesOn_13 rfl ?_
    refine f_getI C dX12_goesOn_14 fl_KilnBenchModel_122 rfl (by decide) (by decide) ?_
    refine m_iconst C dX12_goesOn_17 (by unfold in32; omega) ?_
    refine m_isub C dX12_goesOn_18 ?_
    refine n_istore_n (fun x2 => [some (vR 34 0), some (vI x2), none, none, none]) C dX12_goesOn_19 (by decide) (fun _ => rfl) (fun x2 ex2 => ?_)
    have h := h x2 ex2
    refine m_aload_n C dX12_goesOn_20 rfl ?_
    refine f_getA C dX12_goesOn_21 fl_KilnBenchModel_106 rfl (by decide) (by decide) (by decide) (by decide) ?_
    refine m_iload_n C dX12_goesOn_24 rfl ?_
    obtain ⟨hb, h⟩ := h
    refine f_iald C dX12_goesOn_25 (m_arO (a := 0) (len := 20) rfl rfl) (by decide) hb ?_
    refine n_istore_n (fun x3 => [some (vR 34 0), some (vI x2), some (vI x3), none, none]) C dX12_goesOn_26 (by decide) (fun _ => rfl) (fun x3 ex3 => ?_)
    have h := h x3 ex3
    refine m_iload_n C dX12_goesOn_27 rfl ?_
    refine f_callSi (As := [vI x3]) (st := []) C dX12_goesOn_28 ml_KilnBenchModel_309 rfl rfl (Nat.le_of_ble_eq_true rfl) h (fun r5 μ4 h => ?_)
    refine o_istore_n [some (vR 34 0), some (vI x2), some (vI x3), some (vI r5), none] C dX12_goesOn_31 (by decide) rfl ?_
    refine m_aload_n C dX12_goesOn_32 rfl ?_
    refine f_getA C dX12_goesOn_33 fl_KilnBenchModel_109 rfl (by decide) (by decide) (by decide) (by decide) ?_
    refine m_iload_n C dX12_goesOn_36 rfl ?_
    obtain ⟨hb, h⟩ := h
    refine f_iald C dX12_goesOn_37 (m_arO (a := 0) (len := 20) rfl rfl) (by decide) hb ?_
    refine m_iconst C dX12_goesOn_38 (by unfold in32; omega) ?_
    refine m_icmp_ge (tgt := 188) C dX12_goesOn_39 (by decide) (fun c => ?_) (fun c => ?_)
    · have h := h.1 c
      exact h
    · have h := h.2 c
      refine m_aload_n C dX12_goesOn_42 rfl ?_
      refine m_bipush C dX12_goesOn_43 (by omega) ?_
      refine f_callVi (As := [vI 43]) (st := []) C dX12_goesOn_45 ml_KilnBenchModel_238 rfl (by decide) rfl rfl rfl (Nat.le_of_ble_eq_true rfl) h (fun r8 μ7 h => ?_)
      refine m_if_ne (tgt := 87) C dX12_goesOn_48 (by decide) (fun c => ?_) (fun c => ?_)
      · have h := h.1 c
        exact h
      · have h := h.2 c
        refine m_aload_n C dX12_goesOn_51 rfl ?_
        refine m_bipush C dX12_goesOn_52 (by omega) ?_
        refine f_callVi (As := [vI 45]) (st := []) C dX12_goesOn_54 ml_KilnBenchModel_238 rfl (by decide) rfl rfl rfl (Nat.le_of_ble_eq_true rfl) h (fun r10 μ9 h => ?_)
        refine m_if_ne (tgt := 87) C dX12_goesOn_57 (by decide) (fun c => ?_) (fun c => ?_)
        · have h := h.1 c
          exact h
        · have h := h.2 c
          refine m_aload_n C dX12_goesOn_60 rfl ?_
          refine m_bipush C dX12_goesOn_61 (by omega) ?_
          refine f_callVi (As := [vI 42]) (st := []) C dX12_goesOn_63 ml_KilnBenchModel_238 rfl (by decide) rfl rfl rfl (Nat.le_of_ble_eq_true rfl) h (fun r12 μ11 h => ?_)
          refine m_if_ne (tgt := 87) C dX12_goesOn_66 (by decide) (fun c => ?_) (fun c => ?_)
          · have h := h.1 c
            exact h
          · have h := h.2 c
            refine m_aload_n C dX12_goesOn_69 rfl ?_
            refine m_bipush C dX12_goesOn_70 (by omega) ?_
            refine f_callVi (As := [vI 47]) (st := []) C dX12_goesOn_72 ml_KilnBenchModel_238 rfl (by decide) rfl rfl rfl (Nat.le_of_ble_eq_true rfl) h (fun r14 μ13 h => ?_)
            refine m_if_ne (tgt := 87) C dX12_goesOn_75 (by decide) (fun c => ?_) (fun c => ?_)
            · have h := h.1 c
              exact h
            · have h := h.2 c
              refine m_aload_n C dX12_goesOn_78 rfl ?_
              refine m_bipush C dX12_goesOn_79 (by omega) ?_
              refine f_callVi (As := [vI 37]) (st := []) C dX12_goesOn_81 ml_KilnBenchModel_238 rfl (by decide) rfl rfl rfl (Nat.le_of_ble_eq_true rfl) h (fun r16 μ15 h => ?_)
              refine m_if_eq (tgt := 188) C dX12_goesOn_84 (by decide) (fun c => ?_) (fun c => ?_)
              · have h := h.1 c
                exact h
              · have h := h.2 c
                exact h
  · have h := h.2 c
    refine m_iconst C dX12_goesOn_11 (by unfold in32; omega) ?_
    exact f_zret C R rfl dX12_goesOn_12 (by decide) h

set_option maxRecDepth 20000 in
theorem VX12_goesOn_87 {G : m_G} {X : m_X} {d : Nat} {K : Int → m_M → Prop} (C : mC G X YX12_goesOn (d + 1)) (R : r_i G X K) {μ : m_M} {l1 : Int} {l2 : Int} {l3 : Int}
    (h : c_i G d YX12_isSign [vR 34 0, vI 43] μ (fun r2 μ1 => ((¬ r2 = 0) → c_v G d YX12_joins [vR 34 0, vI 5] μ1 (fun μ3 => c_i G d YX12_isSign [vR 34 0, vI 43] μ3 (fun r5 μ4 => ((r5 = 0) → c_i G d YX12_isSign [vR 34 0, vI 45] μ4 (fun r7 μ6 => ((r7 = 0) → c_i G d YX12_isSign [vR 34 0, vI 42] μ6 (fun r9 μ8 => ((r9 = 0) → c_i G d YX12_isSign [vR 34 0, vI 47] μ8 (fun r11 μ10 => ((r11 = 0) → c_v G d YX12_holdsBack [vR 34 0, vI 35] μ10 (fun μ12 => c_v G d YX12_ahead [vR 34 0] μ12 (fun μ13 => ∀ μ14 : m_M, μ14 = m_up μ13 34 0 40 0 → K 1 μ14))) ∧ ((¬ r11 = 0) → c_v G d YX12_holdsBack [vR 34 0, vI 34] μ10 (fun μ15 => c_v G d YX12_ahead [vR 34 0] μ15 (fun μ16 => ∀ μ17 : m_M, μ17 = m_up μ16 34 0 40 0 → K 1 μ17))))) ∧ ((¬ r9 = 0) → c_v G d YX12_holdsBack [vR 34 0, vI 33] μ8 (fun μ18 => c_v G d YX12_ahead [vR 34 0] μ18 (fun μ19 => ∀ μ20 : m_M, μ20 = m_up μ19 34 0 40 0 → K 1 μ20))))) ∧ ((¬ r7 = 0) → c_v G d YX12_holdsBack [vR 34 0, vI 32] μ6 (fun μ21 => c_v G d YX12_ahead [vR 34 0] μ21 (fun μ22 => ∀ μ23 : m_M, μ23 = m_up μ22 34 0 40 0 → K 1 μ23))))) ∧ ((¬ r5 = 0) → c_v G d YX12_holdsBack [vR 34 0, vI 31] μ4 (fun μ24 => c_v G d YX12_ahead [vR 34 0] μ24 (fun μ25 => ∀ μ26 : m_M, μ26 = m_up μ25 34 0 40 0 → K 1 μ26)))))) ∧ ((r2 = 0) → c_i G d YX12_isSign [vR 34 0, vI 45] μ1 (fun r28 μ27 => ((r28 = 0) → c_v G d YX12_joins [vR 34 0, vI 6] μ27 (fun μ29 => c_i G d YX12_isSign [vR 34 0, vI 43] μ29 (fun r31 μ30 => ((r31 = 0) → c_i G d YX12_isSign [vR 34 0, vI 45] μ30 (fun r33 μ32 => ((r33 = 0) → c_i G d YX12_isSign [vR 34 0, vI 42] μ32 (fun r35 μ34 => ((r35 = 0) → c_i G d YX12_isSign [vR 34 0, vI 47] μ34 (fun r37 μ36 => ((r37 = 0) → c_v G d YX12_holdsBack [vR 34 0, vI 35] μ36 (fun μ38 => c_v G d YX12_ahead [vR 34 0] μ38 (fun μ39 => ∀ μ40 : m_M, μ40 = m_up μ39 34 0 40 0 → K 1 μ40))) ∧ ((¬ r37 = 0) → c_v G d YX12_holdsBack [vR 34 0, vI 34] μ36 (fun μ41 => c_v G d YX12_ahead [vR 34 0] μ41 (fun μ42 => ∀ μ43 : m_M, μ43 = m_up μ42 34 0 40 0 → K 1 μ43))))) ∧ ((¬ r35 = 0) → c_v G d YX12_holdsBack [vR 34 0, vI 33] μ34 (fun μ44 => c_v G d YX12_ahead [vR 34 0] μ44 (fun μ45 => ∀ μ46 : m_M, μ46 = m_up μ45 34 0 40 0 → K 1 μ46))))) ∧ ((¬ r33 = 0) → c_v G d YX12_holdsBack [vR 34 0, vI 32] μ32 (fun μ47 => c_v G d YX12_ahead [vR 34 0] μ47 (fun μ48 => ∀ μ49 : m_M, μ49 = m_up μ48 34 0 40 0 → K 1 μ49))))) ∧ ((¬ r31 = 0) → c_v G d YX12_holdsBack [vR 34 0, vI 31] μ30 (fun μ50 => c_v G d YX12_ahead [vR 34 0] μ50 (fun μ51 => ∀ μ52 : m_M, μ52 = m_up μ51 34 0 40 0 → K 1 μ52)))))) ∧ ((¬ r28 = 0) → c_v G d YX12_joins [vR 34 0, vI 5] μ27 (fun μ53 => c_i G d YX12_isSign [vR 34 0, vI 43] μ53 (fun r55 μ54 => ((r55 = 0) → c_i G d YX12_isSign [vR 34 0, vI 45] μ54 (fun r57 μ56 => ((r57 = 0) → c_i G d YX12_isSign [vR 34 0, vI 42] μ56 (fun r59 μ58 => ((r59 = 0) → c_i G d YX12_isSign [vR 34 0, vI 47] μ58 (fun r61 μ60 => ((r61 = 0) → c_v G d YX12_holdsBack [vR 34 0, vI 35] μ60 (fun μ62 => c_v G d YX12_ahead [vR 34 0] μ62 (fun μ63 => ∀ μ64 : m_M, μ64 = m_up μ63 34 0 40 0 → K 1 μ64))) ∧ ((¬ r61 = 0) → c_v G d YX12_holdsBack [vR 34 0, vI 34] μ60 (fun μ65 => c_v G d YX12_ahead [vR 34 0] μ65 (fun μ66 => ∀ μ67 : m_M, μ67 = m_up μ66 34 0 40 0 → K 1 μ67))))) ∧ ((¬ r59 = 0) → c_v G d YX12_holdsBack [vR 34 0, vI 33] μ58 (fun μ68 => c_v G d YX12_ahead [vR 34 0] μ68 (fun μ69 => ∀ μ70 : m_M, μ70 = m_up μ69 34 0 40 0 → K 1 μ70))))) ∧ ((¬ r57 = 0) → c_v G d YX12_holdsBack [vR 34 0, vI 32] μ56 (fun μ71 => c_v G d YX12_ahead [vR 34 0] μ71 (fun μ72 => ∀ μ73 : m_M, μ73 = m_up μ72 34 0 40 0 → K 1 μ73))))) ∧ ((¬ r55 = 0) → c_v G d YX12_holdsBack [vR 34 0, vI 31] μ54 (fun μ74 => c_v G d YX12_ahead [vR 34 0] μ74 (fun μ75 => ∀ μ76 : m_M, μ76 = m_up μ75 34 0 40 0 → K 1 μ76)))))))))) :
    mW G X YX12_goesOn μ 87 [some (vR 34 0), some (vI l1), some (vI l2), some (vI l3), none] [] := by
  refine m_aload_n C dX12_goesOn_87 rfl ?_
  refine m_aload_n C dX12_goesOn_88 rfl ?_
  refine m_bipush C dX12_goesOn_89 (by omega) ?_
  refine f_callVi (As := [vI 43]) (st := [vR 34 0]) C dX12_goesOn_91 ml_KilnBenchModel_238 rfl (by decide) rfl rfl rfl (Nat.le_of_ble_eq_true rfl) h (fun r2 μ1 h => ?_)
  refine m_if_ne (tgt := 106) C dX12_goesOn_94 (by decide) (fun c => ?_) (fun c => ?_)
  · have h := h.1 c
    refine m_iconst C dX12_goesOn_106 (by unfold in32; omega) ?_
    refine m_goto (tgt := 112) C dX12_goesOn_107 (by decide) ?_
    refine f_callVv (As := [vI 5]) (st := []) C dX12_goesOn_112 ml_KilnBenchModel_325 rfl (by decide) rfl rfl rfl (Nat.le_of_ble_eq_true rfl) h (fun μ3 h => ?_)
    refine m_aload_n C dX12_goesOn_115 rfl ?_
    refine m_aload_n C dX12_goesOn_116 rfl ?_
    refine m_bipush C dX12_goesOn_117 (by omega) ?_
    refine f_callVi (As := [vI 43]) (st := [vR 34 0]) C dX12_goesOn_119 ml_KilnBenchModel_238 rfl (by decide) rfl rfl rfl (Nat.le_of_ble_eq_true rfl) h (fun r5 μ4 h => ?_)
    refine m_if_eq (tgt := 130) C dX12_goesOn_122 (by decide) (fun c => ?_) (fun c => ?_)
    · have h := h.1 c
      refine m_aload_n C dX12_goesOn_130 rfl ?_
      refine m_bipush C dX12_goesOn_131 (by omega) ?_
      refine f_callVi (As := [vI 45]) (st := [vR 34 0]) C dX12_goesOn_133 ml_KilnBenchModel_238 rfl (by decide) rfl rfl rfl (Nat.le_of_ble_eq_true rfl) h (fun r7 μ6 h => ?_)
      refine m_if_eq (tgt := 144) C dX12_goesOn_136 (by decide) (fun c => ?_) (fun c => ?_)
      · have h := h.1 c
        refine m_aload_n C dX12_goesOn_144 rfl ?_
        refine m_bipush C dX12_goesOn_145 (by omega) ?_
        refine f_callVi (As := [vI 42]) (st := [vR 34 0]) C dX12_goesOn_147 ml_KilnBenchModel_238 rfl (by decide) rfl rfl rfl (Nat.le_of_ble_eq_true rfl) h (fun r9 μ8 h => ?_)
        refine m_if_eq (tgt := 158) C dX12_goesOn_150 (by decide) (fun c => ?_) (fun c => ?_)
        · have h := h.1 c
          refine m_aload_n C dX12_goesOn_158 rfl ?_
          refine m_bipush C dX12_goesOn_159 (by omega) ?_
          refine f_callVi (As := [vI 47]) (st := [vR 34 0]) C dX12_goesOn_161 ml_KilnBenchModel_238 rfl (by decide) rfl rfl rfl (Nat.le_of_ble_eq_true rfl) h (fun r11 μ10 h => ?_)
          refine m_if_eq (tgt := 172) C dX12_goesOn_164 (by decide) (fun c => ?_) (fun c => ?_)
          · have h := h.1 c
            refine m_bipush C dX12_goesOn_172 (by omega) ?_
            refine f_callVv (As := [vI 35]) (st := []) C dX12_goesOn_174 ml_KilnBenchModel_316 rfl (by decide) rfl rfl rfl (Nat.le_of_ble_eq_true rfl) h (fun μ12 h => ?_)
            refine m_aload_n C dX12_goesOn_177 rfl ?_
            refine f_callVv (As := []) (st := []) C dX12_goesOn_178 ml_KilnBenchModel_241 rfl (by decide) rfl rfl rfl (Nat.le_of_ble_eq_true rfl) h (fun μ13 h => ?_)
            refine m_aload_n C dX12_goesOn_181 rfl ?_
            refine m_iconst C dX12_goesOn_182 (by unfold in32; omega) ?_
            refine f_putZ C dX12_goesOn_183 fl_KilnBenchModel_134 rfl (by decide) (by decide) (by decide) (by decide) ?_
            refine n_mem (fun μ14 eμ14 => ?_)
            have h := h μ14 eμ14
            refine m_iconst C dX12_goesOn_186 (by unfold in32; omega) ?_
            exact f_zret C R rfl dX12_goesOn_187 (by decide) h
          · have h := h.2 c
            refine m_bipush C dX12_goesOn_167 (by omega) ?_
            refine m_goto (tgt := 174) C dX12_goesOn_169 (by decide) ?_
            refine f_callVv (As := [vI 34]) (st := []) C dX12_goesOn_174 ml_KilnBenchModel_316 rfl (by decide) rfl rfl rfl (Nat.le_of_ble_eq_true rfl) h (fun μ15 h => ?_)
            refine m_aload_n C dX12_goesOn_177 rfl ?_
            refine f_callVv (As := []) (st := []) C dX12_goesOn_178 ml_KilnBenchModel_241 rfl (by decide) rfl rfl rfl (Nat.le_of_ble_eq_true rfl) h (fun μ16 h => ?_)
            refine m_aload_n C dX12_goesOn_181 rfl ?_
            refine m_iconst C dX12_goesOn_182 (by unfold in32; omega) ?_
            refine f_putZ C dX12_goesOn_183 fl_KilnBenchModel_134 rfl (by decide) (by decide) (by decide) (by decide) ?_
            refine n_mem (fun μ17 eμ17 => ?_)
            have h := h μ17 eμ17
            refine m_iconst C dX12_goesOn_186 (by unfold in32; omega) ?_
            exact f_zret C R rfl dX12_goesOn_187 (by decide) h
        · have h := h.2 c
          refine m_bipush C dX12_goesOn_153 (by omega) ?_
          refine m_goto (tgt := 174) C dX12_goesOn_155 (by decide) ?_
          refine f_callVv (As := [vI 33]) (st := []) C dX12_goesOn_174 ml_KilnBenchModel_316 rfl (by decide) rfl rfl rfl (Nat.le_of_ble_eq_true rfl) h (fun μ18 h => ?_)
          refine m_aload_n C dX12_goesOn_177 rfl ?_
          refine f_callVv (As := []) (st := []) C dX12_goesOn_178 ml_KilnBenchModel_241 rfl (by decide) rfl rfl rfl (Nat.le_of_ble_eq_true rfl) h (fun μ19 h => ?_)
          refine m_aload_n C dX12_goesOn_181 rfl ?_
          refine m_iconst C dX12_goesOn_182 (by unfold in32; omega) ?_
          refine f_putZ C dX12_goesOn_183 fl_KilnBenchModel_134 rfl (by decide) (by decide) (by decide) (by decide) ?_
          refine n_mem (fun μ20 eμ20 => ?_)
          have h := h μ20 eμ20
          refine m_iconst C dX12_goesOn_186 (by unfold in32; omega) ?_
          exact f_zret C R rfl dX12_goesOn_187 (by decide) h
      · have h := h.2 c
        refine m_bipush C dX12_goesOn_139 (by omega) ?_
        refine m_goto (tgt := 174) C dX12_goesOn_141 (by decide) ?_
        refine f_callVv (As := [vI 32]) (st := []) C dX12_goesOn_174 ml_KilnBenchModel_316 rfl (by decide) rfl rfl rfl (Nat.le_of_ble_eq_true rfl) h (fun μ21 h => ?_)
        refine m_aload_n C dX12_goesOn_177 rfl ?_
        refine f_callVv (As := []) (st := []) C dX12_goesOn_178 ml_KilnBenchModel_241 rfl (by decide) rfl rfl rfl (Nat.le_of_ble_eq_true rfl) h (fun μ22 h => ?_)
        refine m_aload_n C dX12_goesOn_181 rfl ?_
        refine m_iconst C dX12_goesOn_182 (by unfold in32; omega) ?_
        refine f_putZ C dX12_goesOn_183 fl_KilnBenchModel_134 rfl (by decide) (by decide) (by decide) (by decide) ?_
        refine n_mem (fun μ23 eμ23 => ?_)
        have h := h μ23 eμ23
        refine m_iconst C dX12_goesOn_186 (by unfold in32; omega) ?_
        exact f_zret C R rfl dX12_goesOn_187 (by decide) h
    · have h := h.2 c
      refine m_bipush C dX12_goesOn_125 (by omega) ?_
      refine m_goto (tgt := 174) C dX12_goesOn_127 (by decide) ?_
      refine f_callVv (As := [vI 31]) (st := []) C dX12_goesOn_174 ml_KilnBenchModel_316 rfl (by decide) rfl rfl rfl (Nat.le_of_ble_eq_true rfl) h (fun μ24 h => ?_)
      refine m_aload_n C dX12_goesOn_177 rfl ?_
      refine f_callVv (As := []) (st := []) C dX12_goesOn_178 ml_KilnBenchModel_241 rfl (by decide) rfl rfl rfl (Nat.le_of_ble_eq_true rfl) h (fun μ25 h => ?_)
      refine m_aload_n C dX12_goesOn_181 rfl ?_
      refine m_iconst C dX12_goesOn_182 (by unfold in32; omega) ?_
      refine f_putZ C dX12_goesOn_183 fl_KilnBenchModel_134 rfl (by decide) (by decide) (by decide) (by decide) ?_
      refine n_mem (fun μ26 eμ26 => ?_)
      have h := h μ26 eμ26
      refine m_iconst C dX12_goesOn_186 (by unfold in32; omega) ?_
      exact f_zret C R rfl dX12_goesOn_187 (by decide) h
  · have h := h.2 c
    refine m_aload_n C dX12_goesOn_97 rfl ?_
    refine m_bipush C dX12_goesOn_98 (by omega) ?_
    refine f_callVi (As := [vI 45]) (st := [vR 34 0]) C dX12_goesOn_100 ml_KilnBenchModel_238 rfl (by decide) rfl rfl rfl (Nat.le_of_ble_eq_true rfl) h (fun r28 μ27 h => ?_)
    refine m_if_eq (tgt := 110) C dX12_goesOn_103 (by decide) (fun c => ?_) (fun c => ?_)
    · have h := h.1 c
      refine m_bipush C dX12_goesOn_110 (by omega) ?_
      refine f_callVv (As := [vI 6]) (st := []) C dX12_goesOn_112 ml_KilnBenchModel_325 rfl (by decide) rfl rfl rfl (Nat.le_of_ble_eq_true rfl) h (fun μ29 h => ?_)
      refine m_aload_n C dX12_goesOn_115 rfl ?_
      refine m_aload_n C dX12_goesOn_116 rfl ?_
      refine m_bipush C dX12_goesOn_117 (by omega) ?_
      refine f_callVi (As := [vI 43]) (st := [vR 34 0]) C dX12_goesOn_119 ml_KilnBenchModel_238 rfl (by decide) rfl rfl rfl (Nat.le_of_ble_eq_true rfl) h (fun r31 μ30 h => ?_)
      refine m_if_eq (tgt := 130) C dX12_goesOn_122 (by decide) (fun c => ?_) (fun c => ?_)
      · have h := h.1 c
        refine m_aload_n C dX12_goesOn_130 rfl ?_
        refine m_bipush C dX12_goesOn_131 (by omega) ?_
        refine f_callVi (As := [vI 45]) (st := [vR 34 0]) C dX12_goesOn_133 ml_KilnBenchModel_238 rfl (by decide) rfl rfl rfl (Nat.le_of_ble_eq_true rfl) h (fun r33 μ32 h => ?_)
        refine m_if_eq (tgt := 144) C dX12_goesOn_136 (by decide) (fun c => ?_) (fun c => ?_)
        · have h := h.1 c
          refine m_aload_n C dX12_goesOn_144 rfl ?_
          refine m_bipush C dX12_goesOn_145 (by omega) ?_
          refine f_callVi (As := [vI 42]) (st := [vR 34 0]) C dX12_goesOn_147 ml_KilnBenchModel_238 rfl (by decide) rfl rfl rfl (Nat.le_of_ble_eq_true rfl) h (fun r35 μ34 h => ?_)
          refine m_if_eq (tgt := 158) C dX12_goesOn_150 (by decide) (fun c => ?_) (fun c => ?_)
          · have h := h.1 c
            refine m_aload_n C dX12_goesOn_158 rfl ?_
            refine m_bipush C dX12_goesOn_159 (by omega) ?_
            refine f_callVi (As := [vI 47]) (st := [vR 34 0]) C dX12_goesOn_161 ml_KilnBenchModel_238 rfl (by decide) rfl rfl rfl (Nat.le_of_ble_eq_true rfl) h (fun r37 μ36 h => ?_)
            refine m_if_eq (tgt := 172) C dX12_goesOn_164 (by decide) (fun c => ?_) (fun c => ?_)
            · have h := h.1 c
              refine m_bipush C dX12_goesOn_172 (by omega) ?_
              refine f_callVv (As := [vI 35]) (st := []) C dX12_goesOn_174 ml_KilnBenchModel_316 rfl (by decide) rfl rfl rfl (Nat.le_of_ble_eq_true rfl) h (fun μ38 h => ?_)
              refine m_aload_n C dX12_goesOn_177 rfl ?_
              refine f_callVv (As := []) (st := []) C dX12_goesOn_178 ml_KilnBenchModel_241 rfl (by decide) rfl rfl rfl (Nat.le_of_ble_eq_true rfl) h (fun μ39 h => ?_)
              refine m_aload_n C dX12_goesOn_181 rfl ?_
              refine m_iconst C dX12_goesOn_182 (by unfold in32; omega) ?_
              refine f_putZ C dX12_goesOn_183 fl_KilnBenchModel_134 rfl (by decide) (by decide) (by decide) (by decide) ?_
              refine n_mem (fun μ40 eμ40 => ?_)
              have h := h μ40 eμ40
              refine m_iconst C dX12_goesOn_186 (by unfold in32; omega) ?_
              exact f_zret C R rfl dX12_goesOn_187 (by decide) h
            · have h := h.2 c
              refine m_bipush C dX12_goesOn_167 (by omega) ?_
              refine m_goto (tgt := 174) C dX12_goesOn_169 (by decide) ?_
              refine f_callVv (As := [vI 34]) (st := []) C dX12_goesOn_174 ml_KilnBenchModel_316 rfl (by decide) rfl rfl rfl (Nat.le_of_ble_eq_true rfl) h (fun μ41 h => ?_)
              refine m_aload_n C dX12_goesOn_177 rfl ?_
              refine f_callVv (As := []) (st := []) C dX12_goesOn_178 ml_KilnBenchModel_241 rfl (by decide) rfl rfl rfl (Nat.le_of_ble_eq_true rfl) h (fun μ42 h => ?_)
              refine m_aload_n C dX12_goesOn_181 rfl ?_
              refine m_iconst C dX12_goesOn_182 (by unfold in32; omega) ?_
              refine f_putZ C dX12_goesOn_183 fl_KilnBenchModel_134 rfl (by decide) (by decide) (by decide) (by decide) ?_
              refine n_mem (fun μ43 eμ43 => ?_)
              have h := h μ43 eμ43
              refine m_iconst C dX12_goesOn_186 (by unfold in32; omega) ?_
              exact f_zret C R rfl dX12_goesOn_187 (by decide) h
          · have h := h.2 c
            refine m_bipush C dX12_goesOn_153 (by omega) ?_
            refine m_goto (tgt := 174) C dX12_goesOn_155 (by decide) ?_
            refine f_callVv (As := [vI 33]) (st := []) C dX12_goesOn_174 ml_KilnBenchModel_316 rfl (by decide) rfl rfl rfl (Nat.le_of_ble_eq_true rfl) h (fun μ44 h => ?_)
            refine m_aload_n C dX12_goesOn_177 rfl ?_
            refine f_callVv (As := []) (st := []) C dX12_goesOn_178 ml_KilnBenchModel_241 rfl (by decide) rfl rfl rfl (Nat.le_of_ble_eq_true rfl) h (fun μ45 h => ?_)
            refine m_aload_n C dX12_goesOn_181 rfl ?_
            refine m_iconst C dX12_goesOn_182 (by unfold in32; omega) ?_
            refine f_putZ C dX12_goesOn_183 fl_KilnBenchModel_134 rfl (by decide) (by decide) (by decide) (by decide) ?_
            refine n_mem (fun μ46 eμ46 => ?_)
            have h := h μ46 eμ46
            refine m_iconst C dX12_goesOn_186 (by unfold in32; omega) ?_
            exact f_zret C R rfl dX12_goesOn_187 (by decide) h
        · have h := h.2 c
          refine m_bipush C dX12_goesOn_139 (by omega) ?_
          refine m_goto (tgt := 174) C dX12_goesOn_141 (by decide) ?_
          refine f_callVv (As := [vI 32]) (st := []) C dX12_goesOn_174 ml_KilnBenchModel_316 rfl (by decide) rfl rfl rfl (Nat.le_of_ble_eq_true rfl) h (fun μ47 h => ?_)
          refine m_aload_n C dX12_goesOn_177 rfl ?_
          refine f_callVv (As := []) (st := []) C dX12_goesOn_178 ml_KilnBenchModel_241 rfl (by decide) rfl rfl rfl (Nat.le_of_ble_eq_true rfl) h (fun μ48 h => ?_)
          refine m_aload_n C dX12_goesOn_181 rfl ?_
          refine m_iconst C dX12_goesOn_182 (by unfold in32; omega) ?_
          refine f_putZ C dX12_goesOn_183 fl_KilnBenchModel_134 rfl (by decide) (by decide) (by decide) (by decide) ?_
          refine n_mem (fun μ49 eμ49 => ?_)
          have h := h μ49 eμ49
          refine m_iconst C dX12_goesOn_186 (by unfold in32; omega) ?_
          exact f_zret C R rfl dX12_goesOn_187 (by decide) h
      · have h := h.2 c
        refine m_bipush C dX12_goesOn_125 (by omega) ?_
        refine m_goto (tgt := 174) C dX12_goesOn_127 (by decide) ?_
        refine f_callVv (As := [vI 31]) (st := []) C dX12_goesOn_174 ml_KilnBenchModel_316 rfl (by decide) rfl rfl rfl (Nat.le_of_ble_eq_true rfl) h (fun μ50 h => ?_)
        refine m_aload_n C dX12_goesOn_177 rfl ?_
        refine f_callVv (As := []) (st := []) C dX12_goesOn_178 ml_KilnBenchModel_241 rfl (by decide) rfl rfl rfl (Nat.le_of_ble_eq_true rfl) h (fun μ51 h => ?_)
        refine m_aload_n C dX12_goesOn_181 rfl ?_
        refine m_iconst C dX12_goesOn_182 (by unfold in32; omega) ?_
        refine f_putZ C dX12_goesOn_183 fl_KilnBenchModel_134 rfl (by decide) (by decide) (by decide) (by decide) ?_
        refine n_mem (fun μ52 eμ52 => ?_)
        have h := h μ52 eμ52
        refine m_iconst C dX12_goesOn_186 (by unfold in32; omega) ?_
        exact f_zret C R rfl dX12_goesOn_187 (by decide) h
    · have h := h.2 c
      refine m_iconst C dX12_goesOn_106 (by unfold in32; omega) ?_
      refine m_goto (tgt := 112) C dX12_goesOn_107 (by decide) ?_
      refine f_callVv (As := [vI 5]) (st := []) C dX12_goesOn_112 ml_KilnBenchModel_325 rfl (by decide) rfl rfl rfl (Nat.le_of_ble_eq_true rfl) h (fun μ53 h => ?_)
      refine m_aload_n C dX12_goesOn_115 rfl ?_
      refine m_aload_n C dX12_goesOn_116 rfl ?_
      refine m_bipush C dX12_goesOn_117 (by omega) ?_
      refine f_callVi (As := [vI 43]) (st := [vR 34 0]) C dX12_goesOn_119 ml_KilnBenchModel_238 rfl (by decide) rfl rfl rfl (Nat.le_of_ble_eq_true rfl) h (fun r55 μ54 h => ?_)
      refine m_if_eq (tgt := 130) C dX12_goesOn_122 (by decide) (fun c => ?_) (fun c => ?_)
      · have h := h.1 c
        refine m_aload_n C dX12_goesOn_130 rfl ?_
        refine m_bipush C dX12_goesOn_131 (by omega) ?_
        refine f_callVi (As := [vI 45]) (st := [vR 34 0]) C dX12_goesOn_133 ml_KilnBenchModel_238 rfl (by decide) rfl rfl rfl (Nat.le_of_ble_eq_true rfl) h (fun r57 μ56 h => ?_)
        refine m_if_eq (tgt := 144) C dX12_goesOn_136 (by decide) (fun c => ?_) (fun c => ?_)
        · have h := h.1 c
          refine m_aload_n C dX12_goesOn_144 rfl ?_
          refine m_bipush C dX12_goesOn_145 (by omega) ?_
          refine f_callVi (As := [vI 42]) (st := [vR 34 0]) C dX12_goesOn_147 ml_KilnBenchModel_238 rfl (by decide) rfl rfl rfl (Nat.le_of_ble_eq_true rfl) h (fun r59 μ58 h => ?_)
          refine m_if_eq (tgt := 158) C dX12_goesOn_150 (by decide) (fun c => ?_) (fun c => ?_)
          · have h := h.1 c
            refine m_aload_n C dX12_goesOn_158 rfl ?_
            refine m_bipush C dX12_goesOn_159 (by omega) ?_
            refine f_callVi (As := [vI 47]) (st := [vR 34 0]) C dX12_goesOn_161 ml_KilnBenchModel_238 rfl (by decide) rfl rfl rfl (Nat.le_of_ble_eq_true rfl) h (fun r61 μ60 h => ?_)
            refine m_if_eq (tgt := 172) C dX12_goesOn_164 (by decide) (fun c => ?_) (fun c => ?_)
            · have h := h.1 c
              refine m_bipush C dX12_goesOn_172 (by omega) ?_
              refine f_callVv (As := [vI 35]) (st := []) C dX12_goesOn_174 ml_KilnBenchModel_316 rfl (by decide) rfl rfl rfl (Nat.le_of_ble_eq_true rfl) h (fun μ62 h => ?_)
              refine m_aload_n C dX12_goesOn_177 rfl ?_
              refine f_callVv (As := []) (st := []) C dX12_goesOn_178 ml_KilnBenchModel_241 rfl (by decide) rfl rfl rfl (Nat.le_of_ble_eq_true rfl) h (fun μ63 h => ?_)
              refine m_aload_n C dX12_goesOn_181 rfl ?_
              refine m_iconst C dX12_goesOn_182 (by unfold in32; omega) ?_
              refine f_putZ C dX12_goesOn_183 fl_KilnBenchModel_134 rfl (by decide) (by decide) (by decide) (by decide) ?_
              refine n_mem (fun μ64 eμ64 => ?_)
              have h := h μ64 eμ64
              refine m_iconst C dX12_goesOn_186 (by unfold in32; omega) ?_
              exact f_zret C R rfl dX12_goesOn_187 (by decide) h
            · have h := h.2 c
              refine m_bipush C dX12_goesOn_167 (by omega) ?_
              refine m_goto (tgt := 174) C dX12_goesOn_169 (by decide) ?_
              refine f_callVv (As := [vI 34]) (st := []) C dX12_goesOn_174 ml_KilnBenchModel_316 rfl (by decide) rfl rfl rfl (Nat.le_of_ble_eq_true rfl) h (fun μ65 h => ?_)
              refine m_aload_n C dX12_goesOn_177 rfl ?_
              refine f_callVv (As := []) (st := []) C dX12_goesOn_178 ml_KilnBenchModel_241 rfl (by decide) rfl rfl rfl (Nat.le_of_ble_eq_true rfl) h (fun μ66 h => ?_)
              refine m_aload_n C dX12_goesOn_181 rfl ?_
              refine m_iconst C dX12_goesOn_182 (by unfold in32; omega) ?_
              refine f_putZ C dX12_goesOn_183 fl_KilnBenchModel_134 rfl (by decide) (by decide) (by decide) (by decide) ?_
              refine n_mem (fun μ67 eμ67 => ?_)
              have h := h μ67 eμ67
              refine m_iconst C dX12_goesOn_186 (by unfold in32; omega) ?_
              exact f_zret C R rfl dX12_goesOn_187 (by decide) h
          · have h := h.2 c
            refine m_bipush C dX12_goesOn_153 (by omega) ?_
            refine m_goto (tgt := 174) C dX12_goesOn_155 (by decide) ?_
            refine f_callVv (As := [vI 33]) (st := []) C dX12_goesOn_174 ml_KilnBenchModel_316 rfl (by decide) rfl rfl rfl (Nat.le_of_ble_eq_true rfl) h (fun μ68 h => ?_)
            refine m_aload_n C dX12_goesOn_177 rfl ?_
            refine f_callVv (As := []) (st := []) C dX12_goesOn_178 ml_KilnBenchModel_241 rfl (by decide) rfl rfl rfl (Nat.le_of_ble_eq_true rfl) h (fun μ69 h => ?_)
            refine m_aload_n C dX12_goesOn_181 rfl ?_
            refine m_iconst C dX12_goesOn_182 (by unfold in32; omega) ?_
            refine f_putZ C dX12_goesOn_183 fl_KilnBenchModel_134 rfl (by decide) (by decide) (by decide) (by decide) ?_
            refine n_mem (fun μ70 eμ70 => ?_)
            have h := h μ70 eμ70
            refine m_iconst C dX12_goesOn_186 (by unfold in32; omega) ?_
            exact f_zret C R rfl dX12_goesOn_187 (by decide) h
        · have h := h.2 c
          refine m_bipush C dX12_goesOn_139 (by omega) ?_
          refine m_goto (tgt := 174) C dX12_goesOn_141 (by decide) ?_
          refine f_callVv (As := [vI 32]) (st := []) C dX12_goesOn_174 ml_KilnBenchModel_316 rfl (by decide) rfl rfl rfl (Nat.le_of_ble_eq_true rfl) h (fun μ71 h => ?_)
          refine m_aload_n C dX12_goesOn_177 rfl ?_
          refine f_callVv (As := []) (st := []) C dX12_goesOn_178 ml_KilnBenchModel_241 rfl (by decide) rfl rfl rfl (Nat.le_of_ble_eq_true rfl) h (fun μ72 h => ?_)
          refine m_aload_n C dX12_goesOn_181 rfl ?_
          refine m_iconst C dX12_goesOn_182 (by unfold in32; omega) ?_
          refine f_putZ C dX12_goesOn_183 fl_KilnBenchModel_134 rfl (by decide) (by decide) (by decide) (by decide) ?_
          refine n_mem (fun μ73 eμ73 => ?_)
          have h := h μ73 eμ73
          refine m_iconst C dX12_goesOn_186 (by unfold in32; omega) ?_
          exact f_zret C R rfl dX12_goesOn_187 (by decide) h
      · have h := h.2 c
        refine m_bipush C dX12_goesOn_125 (by omega) ?_
        refine m_goto (tgt := 174) C dX12_goesOn_127 (by decide) ?_
        refine f_callVv (As := [vI 31]) (st := []) C dX12_goesOn_174 ml_KilnBenchModel_316 rfl (by decide) rfl rfl rfl (Nat.le_of_ble_eq_true rfl) h (fun μ74 h => ?_)
        refine m_aload_n C dX12_goesOn_177 rfl ?_
        refine f_callVv (As := []) (st := []) C dX12_goesOn_178 ml_KilnBenchModel_241 rfl (by decide) rfl rfl rfl (Nat.le_of_ble_eq_true rfl) h (fun μ75 h => ?_)
        refine m_aload_n C dX12_goesOn_181 rfl ?_
        refine m_iconst C dX12_goesOn_182 (by unfold in32; omega) ?_
        refine f_putZ C dX12_goesOn_183 fl_KilnBenchModel_134 rfl (by decide) (by decide) (by decide) (by decide) ?_
        refine n_mem (fun μ76 eμ76 => ?_)
        have h := h μ76 eμ76
        refine m_iconst C dX12_goesOn_186 (by unfold in32; omega) ?_
        exact f_zret C R rfl dX12_goesOn_187 (by decide) h

set_option maxRecDepth 20000 in
theorem VX12_goesOn_188 {G : m_G} {X : m_X} {d : Nat} {K : Int → m_M → Prop} (C : mC G X YX12_goesOn (d + 1)) (R : r_i G X K) {μ : m_M} {l1 : Int} {l2 : Int} {l3 : Int}
    (h : ((l3 = 0) → mW G X YX12_goesOn μ 285 [some (vR 34 0), some (vI l1), some (vI l2), some (vI l3), none] []) ∧ ((¬ l3 = 0) → (0 ≤ l1 ∧ l1 < 20) ∧ ((¬ (μ 34 33 l1.toNat) = 0) → mW G X YX12_goesOn μ 285 [some (vR 34 0), some (vI l1), some (vI l2), some (vI l3), none] []) ∧ ((μ 34 33 l1.toNat = 0) → c_i G d YX12_isSign [vR 34 0, vI 60] μ (fun r2 μ1 => ((¬ r2 = 0) → mW G X YX12_goesOn μ1 228 [some (vR 34 0), some (vI l1), some (vI l2), some (vI l3), none] []) ∧ ((r2 = 0) → c_i G d YX12_isSign [vR 34 0, vI 62] μ1 (fun r4 μ3 => ((¬ r4 = 0) → mW G X YX12_goesOn μ3 228 [some (vR 34 0), some (vI l1), some (vI l2), some (vI l3), none] []) ∧ ((r4 = 0) → c_i G d YX12_isSign [vR 34 0, vI 61] μ3 (fun r6 μ5 => ((r6 = 0) → mW G X YX12_goesOn μ5 285 [some (vR 34 0), some (vI l1), some (vI l2), some (vI l3), none] []) ∧ ((¬ r6 = 0) → mW G X YX12_goesOn μ5 228 [some (vR 34 0), some (vI l1), some (vI l2), some (vI l3), none] []))))))))) :
    mW G X YX12_goesOn μ 188 [some (vR 34 0), some (vI l1), some (vI l2), some (vI l3), none] [] := by
  refine m_iload_n C dX12_goesOn_188 rfl ?_
  refine m_if_eq (tgt := 285) C dX12_goesOn_189 (by decide) (fun c => ?_) (fun c => ?_)
  · have h := h.1 c
    exact h
  · have h := h.2 c
    refine m_aload_n C dX12_goesOn_192 rfl ?_
    refine f_getA C dX12_goesOn_193 fl_KilnBenchModel_109 rfl (by decide) (by decide) (by decide) (by decide) ?_
    refine m_iload_n C dX12_goesOn_196 rfl ?_
    obtain ⟨hb, h⟩ := h
    refine f_iald C dX12_goesOn_197 (m_arO (a := 0) (len := 20) rfl rfl) (by decide) hb ?_
    refine m_if_ne (tgt := 285) C dX12_goesOn_198 (by decide) (fun c => ?_) (fun c => ?_)
    · have h := h.1 c
      exact h
    · have h := h.2 c
      refine m_aload_n C dX12_goesOn_201 rfl ?_
      refine m_bipush C dX12_goesOn_202 (by omega) ?_
      refine f_callVi (As := [vI 60]) (st := []) C dX12_goesOn_204 ml_KilnBenchModel_238 rfl (by decide) rfl rfl rfl (Nat.le_of_ble_eq_true rfl) h (fun r2 μ1 h => ?_)
      refine m_if_ne (tgt := 228) C dX12_goesOn_207 (by decide) (fun c => ?_) (fun c => ?_)
      · have h := h.1 c
        exact h
      · have h := h.2 c
        refine m_aload_n C dX12_goesOn_210 rfl ?_
        refine m_bipush C dX12_goesOn_211 (by omega) ?_
        refine f_callVi (As := [vI 62]) (st := []) C dX12_goesOn_213 ml_KilnBenchModel_238 rfl (by decide) rfl rfl rfl (Nat.le_of_ble_eq_true rfl) h (fun r4 μ3 h => ?_)
        refine m_if_ne (tgt := 228) C dX12_goesOn_216 (by decide) (fun c => ?_) (fun c => ?_)
        · have h := h.1 c
          exact h
        · have h := h.2 c
          refine m_aload_n C dX12_goesOn_219 rfl ?_
          refine m_bipush C dX12_goesOn_220 (by omega) ?_
          refine f_callVi (As := [vI 61]) (st := []) C dX12_goesOn_222 ml_KilnBenchModel_238 rfl (by decide) rfl rfl rfl (Nat.le_of_ble_eq_true rfl) h (fun r6 μ5 h => ?_)
          refine m_if_eq (tgt := 285) C dX12_goesOn_225 (by decide) (fun c => ?_) (fun c => ?_)
          · have h := h.1 c
            exact h
          · have h := h.2 c
            exact h

set_option maxRecDepth 20000 in
theorem VX12_goesOn_228 {G : m_G} {X : m_X} {d : Nat} {K : Int → m_M → Prop} (C : mC G X YX12_goesOn (d + 1)) (R : r_i G X K) {μ : m_M} {l1 : Int} {l2 : Int} {l3 : Int}
    (h : c_v G d YX12_joins [vR 34 0, vI 5] μ (fun μ1 => c_i G d YX12_isSign [vR 34 0, vI 60] μ1 (fun r3 μ2 => ((r3 = 0) → c_i G d YX12_isSign [vR 34 0, vI 62] μ2 (fun r5 μ4 => ((r5 = 0) → c_v G d YX12_holdsBack [vR 34 0, vI 40] μ4 (fun μ6 => (0 ≤ l1 ∧ l1 < 20) ∧ ∀ μ7 : m_M, μ7 = m_up μ6 34 33 l1.toNat 1 → c_v G d YX12_ahead [vR 34 0] μ7 (fun μ8 => ∀ μ9 : m_M, μ9 = m_up μ8 34 0 40 0 → K 1 μ9))) ∧ ((¬ r5 = 0) → c_v G d YX12_holdsBack [vR 34 0, vI 39] μ4 (fun μ10 => (0 ≤ l1 ∧ l1 < 20) ∧ ∀ μ11 : m_M, μ11 = m_up μ10 34 33 l1.toNat 1 → c_v G d YX12_ahead [vR 34 0] μ11 (fun μ12 => ∀ μ13 : m_M, μ13 = m_up μ12 34 0 40 0 → K 1 μ13))))) ∧ ((¬ r3 = 0) → c_v G d YX12_holdsBack [vR 34 0, vI 38] μ2 (fun μ14 => (0 ≤ l1 ∧ l1 < 20) ∧ ∀ μ15 : m_M, μ15 = m_up μ14 34 33 l1.toNat 1 → c_v G d YX12_ahead [vR 34 0] μ15 (fun μ16 => ∀ μ17 : m_M, μ17 = m_up μ16 34 0 40 0 → K 1 μ17)))))) :
    mW G X YX12_goesOn μ 228 [some (vR 34 0), some (vI l1), some (vI l2), some (vI l3), none] [] := by
  refine m_aload_n C dX12_goesOn_228 rfl ?_
  refine m_iconst C dX12_goesOn_229 (by unfold in32; omega) ?_
  refine f_callVv (As := [vI 5]) (st := []) C dX12_goesOn_230 ml_KilnBenchModel_325 rfl (by decide) rfl rfl rfl (Nat.le_of_ble_eq_true rfl) h (fun μ1 h => ?_)
  refine m_aload_n C dX12_goesOn_233 rfl ?_
  refine m_aload_n C dX12_goesOn_234 rfl ?_
  refine m_bipush C dX12_goesOn_235 (by omega) ?_
  refine f_callVi (As := [vI 60]) (st := [vR 34 0]) C dX12_goesOn_237 ml_KilnBenchModel_238 rfl (by decide) rfl rfl rfl (Nat.le_of_ble_eq_true rfl) h (fun r3 μ2 h => ?_)
  refine m_if_eq (tgt := 248) C dX12_goesOn_240 (by decide) (fun c => ?_) (fun c => ?_)
  · have h := h.1 c
    refine m_aload_n C dX12_goesOn_248 rfl ?_
    refine m_bipush C dX12_goesOn_249 (by omega) ?_
    refine f_callVi (As := [vI 62]) (st := [vR 34 0]) C dX12_goesOn_251 ml_KilnBenchModel_238 rfl (by decide) rfl rfl rfl (Nat.le_of_ble_eq_true rfl) h (fun r5 μ4 h => ?_)
    refine m_if_eq (tgt := 262) C dX12_goesOn_254 (by decide) (fun c => ?_) (fun c => ?_)
    · have h := h.1 c
      refine m_bipush C dX12_goesOn_262 (by omega) ?_
      refine f_callVv (As := [vI 40]) (st := []) C dX12_goesOn_264 ml_KilnBenchModel_316 rfl (by decide) rfl rfl rfl (Nat.le_of_ble_eq_true rfl) h (fun μ6 h => ?_)
      refine m_aload_n C dX12_goesOn_267 rfl ?_
      refine f_getA C dX12_goesOn_268 fl_KilnBenchModel_109 rfl (by decide) (by decide) (by decide) (by decide) ?_
      refine m_iload_n C dX12_goesOn_271 rfl ?_
      refine m_iconst C dX12_goesOn_272 (by unfold in32; omega) ?_
      obtain ⟨hb, h⟩ := h
      refine f_iast C dX12_goesOn_273 (m_arO (a := 0) (len := 20) rfl rfl) (by decide) hb ?_
      refine n_mem (fun μ7 eμ7 => ?_)
      have h := h μ7 eμ7
      refine m_aload_n C dX12_goesOn_274 rfl ?_
      refine f_callVv (As := []) (st := []) C dX12_goesOn_275 ml_KilnBenchModel_241 rfl (by decide) rfl rfl rfl (Nat.le_of_ble_eq_true rfl) h (fun μ8 h => ?_)
      refine m_aload_n C dX12_goesOn_278 rfl ?_
      refine m_iconst C dX12_goesOn_279 (by unfold in32; omega) ?_
      refine f_putZ C dX12_goesOn_280 fl_KilnBenchModel_134 rfl (by decide) (by decide) (by decide) (by decide) ?_
      refine n_mem (fun μ9 eμ9 => ?_)
      have h := h μ9 eμ9
      refine m_iconst C dX12_goesOn_283 (by unfold in32; omega) ?_
      exact f_zret C R rfl dX12_goesOn_284 (by decide) h
    · have h := h.2 c
      refine m_bipush C dX12_goesOn_257 (by omega) ?_
      refine m_goto (tgt := 264) C dX12_goesOn_259 (by decide) ?_
      refine f_callVv (As := [vI 39]) (st := []) C dX12_goesOn_264 ml_KilnBenchModel_316 rfl (by decide) rfl rfl rfl (Nat.le_of_ble_eq_true rfl) h (fun μ10 h => ?_)
      refine m_aload_n C dX12_goesOn_267 rfl ?_
      refine f_getA C dX12_goesOn_268 fl_KilnBenchModel_109 rfl (by decide) (by decide) (by decide) (by decide) ?_
      refine m_iload_n C dX12_goesOn_271 rfl ?_
      refine m_iconst C dX12_goesOn_272 (by unfold in32; omega) ?_
      obtain ⟨hb, h⟩ := h
      refine f_iast C dX12_goesOn_273 (m_arO (a := 0) (len := 20) rfl rfl) (by decide) hb ?_
      refine n_mem (fun μ11 eμ11 => ?_)
      have h := h μ11 eμ11
      refine m_aload_n C dX12_goesOn_274 rfl ?_
      refine f_callVv (As := []) (st := []) C dX12_goesOn_275 ml_KilnBenchModel_241 rfl (by decide) rfl rfl rfl (Nat.le_of_ble_eq_true rfl) h (fun μ12 h => ?_)
      refine m_aload_n C dX12_goesOn_278 rfl ?_
      refine m_iconst C dX12_goesOn_279 (by unfold in32; omega) ?_
      refine f_putZ C dX12_goesOn_280 fl_KilnBenchModel_134 rfl (by decide) (by decide) (by decide) (by decide) ?_
      refine n_mem (fun μ13 eμ13 => ?_)
      have h := h μ13 eμ13
      refine m_iconst C dX12_goesOn_283 (by unfold in32; omega) ?_
      exact f_zret C R rfl dX12_goesOn_284 (by decide) h
  · have h := h.2 c
    refine m_bipush C dX12_goesOn_243 (by omega) ?_
    refine m_goto (tgt := 264) C dX12_goesOn_245 (by decide) ?_
    refine f_callVv (As := [vI 38]) (st := []) C dX12_goesOn_264 ml_KilnBenchModel_316 rfl (by decide) rfl rfl rfl (Nat.le_of_ble_eq_true rfl) h (fun μ14 h => ?_)
    refine m_aload_n C dX12_goesOn_267 rfl ?_
    refine f_getA C dX12_goesOn_268 fl_KilnBenchModel_109 rfl (by decide) (by decide) (by decide) (by decide) ?_
    refine m_iload_n C dX12_goesOn_271 rfl ?_
    refine m_iconst C dX12_goesOn_272 (by unfold in32; omega) ?_
    obtain ⟨hb, h⟩ := h
    refine f_iast C dX12_goesOn_273 (m_arO (a := 0) (len := 20) rfl rfl) (by decide) hb ?_
    refine n_mem (fun μ15 eμ15 => ?_)
    have h := h μ15 eμ15
    refine m_aload_n C dX12_goesOn_274 rfl ?_
    refine f_callVv (As := []) (st := []) C dX12_goesOn_275 ml_KilnBenchModel_241 rfl (by decide) rfl rfl rfl (Nat.le_of_ble_eq_true rfl) h (fun μ16 h => ?_)
    refine m_aload_n C dX12_goesOn_278 rfl ?_
    refine m_iconst C dX12_goesOn_279 (by unfold in32; omega) ?_
    refine f_putZ C dX12_goesOn_280 fl_KilnBenchModel_134 rfl (by decide) (by decide) (by decide) (by decide) ?_
    refine n_mem (fun μ17 eμ17 => ?_)
    have h := h μ17 eμ17
    refine m_iconst C dX12_goesOn_283 (by unfold in32; omega) ?_
    exact f_zret C R rfl dX12_goesOn_284 (by decide) h

set_option maxRecDepth 20000 in
theorem VX12_goesOn_285 {G : m_G} {X : m_X} {d : Nat} {K : Int → m_M → Prop} (C : mC G X YX12_goesOn (d + 1)) (R : r_i G X K) {μ : m_M} {l1 : Int} {l2 : Int} {l3 : Int}
    (h : ((l3 = 0) → mW G X YX12_goesOn μ 400 [some (vR 34 0), some (vI l1), some (vI l2), some (vI l3), none] []) ∧ ((¬ l3 = 0) → c_i G d YX12_isWord [vR 34 0, vJ 6385252] μ (fun r2 μ1 => ((¬ r2 = 0) → mW G X YX12_goesOn μ1 309 [some (vR 34 0), some (vI l1), some (vI l2), some (vI l3), none] []) ∧ ((r2 = 0) → c_i G d YX12_isWord [vR 34 0, vJ 28530] μ1 (fun r4 μ3 => ((r4 = 0) → mW G X YX12_goesOn μ3 400 [some (vR 34 0), some (vI l1), some (vI l2), some (vI l3), none] []) ∧ ((¬ r4 = 0) → mW G X YX12_goesOn μ3 309 [some (vR 34 0), some (vI l1), some (vI l2), some (vI l3), none] [])))))) :
    mW G X YX12_goesOn μ 285 [some (vR 34 0), some (vI l1), some (vI l2), some (vI l3), none] [] := by
  refine m_iload_n C dX12_goesOn_285 rfl ?_
  refine m_if_eq (tgt := 400) C dX12_goesOn_286 (by decide) (fun c => ?_) (fun c => ?_)
  · have h := h.1 c
    exact h
  · have h := h.2 c
    refine m_aload_n C dX12_goesOn_289 rfl ?_
    refine m_ldc2 (x := 6385252) C dX12_goesOn_290 lc_KilnBenchModel_286 rfl ?_
    refine f_callVi (As := [vJ 6385252]) (st := []) C dX12_goesOn_293 ml_KilnBenchModel_312 rfl (by decide) rfl rfl rfl (Nat.le_of_ble_eq_true rfl) h (fun r2 μ1 h => ?_)
    refine m_if_ne (tgt := 309) C dX12_goesOn_296 (by decide) (fun c => ?_) (fun c => ?_)
    · have h := h.1 c
      exact h
    · have h := h.2 c
      refine m_aload_n C dX12_goesOn_299 rfl ?_
      refine m_ldc2 (x := 28530) C dX12_goesOn_300 lc_KilnBenchModel_284 rfl ?_
      refine f_callVi (As := [vJ 28530]) (st := []) C dX12_goesOn_303 ml_KilnBenchModel_312 rfl (by decide) rfl rfl rfl (Nat.le_of_ble_eq_true rfl) h (fun r4 μ3 h => ?_)
      refine m_if_eq (tgt := 400) C dX12_goesOn_306 (by decide) (fun c => ?_) (fun c => ?_)
      · have h := h.1 c
        exact h
      · have h := h.2 c
        exact h

set_option maxRecDepth 20000 in
theorem VX12_goesOn_309 {G : m_G} {X : m_X} {d : Nat} {K : Int → m_M → Prop} (C : mC G X YX12_goesOn (d + 1)) (R : r_i G X K) {μ : m_M} {l1 : Int} {l2 : Int} {l3 : Int}
    (h : (0 ≤ l1 ∧ l1 < 20) ∧ ((¬ (μ 34 33 l1.toNat) = 0) → mW G X YX12_goesOn μ 327 [some (vR 34 0), some (vI l1), some (vI l2), some (vI l3), none] []) ∧ ((μ 34 33 l1.toNat = 0) → c_v G d YX12_blame [vR 34 0, vI 1, vI (μ 34 0 4)] μ (fun μ1 => mW G X YX12_goesOn μ1 327 [some (vR 34 0), some (vI l1), some (vI l2), some (vI l3), none] []))) :
    mW G X YX12_goesOn μ 309 [some (vR 34 0), some (vI l1), some (vI l2), some (vI l3), none] [] := by
  refine m_aload_n C dX12_goesOn_309 rfl ?_
  refine f_getA C dX12_goesOn_310 fl_KilnBenchModel_109 rfl (by decide) (by decide) (by decide) (by decide) ?_
  refine m_iload_n C dX12_goesOn_313 rfl ?_
  obtain ⟨hb, h⟩ := h
  refine f_iald C dX12_goesOn_314 (m_arO (a := 0) (len := 20) rfl rfl) (by decide) hb ?_
  refine m_if_ne (tgt := 327) C dX12_goesOn_315 (by decide) (fun c => ?_) (fun c => ?_)
  · have h := h.1 c
    exact h
  · have h := h.2 c
    refine m_aload_n C dX12_goesOn_318 rfl ?_
    refine m_iconst C dX12_goesOn_319 (by unfold in32; omega) ?_
    refine m_aload_n C dX12_goesOn_320 rfl ?_
    refine f_getI C dX12_goesOn_321 fl_KilnBenchModel_23 rfl (by decide) (by decide) ?_
    refine f_callVv (As := [vI 1, vI (μ 34 0 4)]) (st := []) C dX12_goesOn_324 ml_KilnBenchModel_224 rfl (by decide) rfl rfl rfl (Nat.le_of_ble_eq_true rfl) h (fun μ1 h => ?_)
    exact h

set_option maxRecDepth 20000 in
theorem VX12_goesOn_327 {G : m_G} {X : m_X} {d : Nat} {K : Int → m_M → Prop} (C : mC G X YX12_goesOn (d + 1)) (R : r_i G X K) {μ : m_M} {l1 : Int} {l2 : Int} {l3 : Int}
    (h : ((μ 34 0 8 ≤ 0) → c_i G d YX12_isWord [vR 34 0, vJ 6385252] μ (fun r2 μ1 => ((r2 = 0) → c_v G d YX12_joins [vR 34 0, vI 1] μ1 (fun μ4 => ((r2 = 0) → c_v G d YX12_holdsBack [vR 34 0, vI 42] μ4 (fun μ5 => (0 ≤ l1 ∧ l1 < 20) ∧ ∀ μ6 : m_M, μ6 = m_up μ5 34 33 l1.toNat 0 → (0 ≤ l1 ∧ l1 < 20) ∧ ∀ μ7 : m_M, μ7 = m_up μ6 34 34 l1.toNat 1 → c_v G d YX12_ahead [vR 34 0] μ7 (fun μ8 => ∀ μ9 : m_M, μ9 = m_up μ8 34 0 40 0 → K 1 μ9))) ∧ ((¬ r2 = 0) → c_v G d YX12_holdsBack [vR 34 0, vI 41] μ4 (fun μ10 => (0 ≤ l1 ∧ l1 < 20) ∧ ∀ μ11 : m_M, μ11 = m_up μ10 34 33 l1.toNat 0 → (0 ≤ l1 ∧ l1 < 20) ∧ ∀ μ12 : m_M, μ12 = m_up μ11 34 34 l1.toNat 1 → c_v G d YX12_ahead [vR 34 0] μ12 (fun μ13 => ∀ μ14 : m_M, μ14 = m_up μ13 34 0 40 0 → K 1 μ14))))) ∧ ((¬ r2 = 0) → c_v G d YX12_joins [vR 34 0, vI 2] μ1 (fun μ15 => ((r2 = 0) → c_v G d YX12_holdsBack [vR 34 0, vI 42] μ15 (fun μ16 => (0 ≤ l1 ∧ l1 < 20) ∧ ∀ μ17 : m_M, μ17 = m_up μ16 34 33 l1.toNat 0 → (0 ≤ l1 ∧ l1 < 20) ∧ ∀ μ18 : m_M, μ18 = m_up μ17 34 34 l1.toNat 1 → c_v G d YX12_ahead [vR 34 0] μ18 (fun μ19 => ∀ μ20 : m_M, μ20 = m_up μ19 34 0 40 0 → K 1 μ20))) ∧ ((¬ r2 = 0) → c_v G d YX12_holdsBack [vR 34 0, vI 41] μ15 (fun μ21 => (0 ≤ l1 ∧ l1 < 20) ∧ ∀ μ22 : m_M, μ22 = m_up μ21 34 33 l1.toNat 0 → (0 ≤ l1 ∧ l1 < 20) ∧ ∀ μ23 : m_M, μ23 = m_up μ22 34 34 l1.toNat 1 → c_v G d YX12_ahead [vR 34 0] μ23 (fun μ24 => ∀ μ25 : m_M, μ25 = m_up μ24 34 0 40 0 → K 1 μ25))))))) ∧ ((¬ μ 34 0 8 ≤ 0) → K 0 μ)) :
    mW G X YX12_goesOn μ 327 [some (vR 34 0), some (vI l1), some (vI l2), some (vI l3), none] [] := by
  refine m_aload_n C dX12_goesOn_327 rfl ?_
  refine f_getI C dX12_goesOn_328 fl_KilnBenchModel_36 rfl (by decide) (by decide) ?_
  refine m_if_le (tgt := 336) C dX12_goesOn_331 (by decide) (fun c => ?_) (fun c => ?_)
  · have h := h.1 c
    refine m_aload_n C dX12_goesOn_336 rfl ?_
    refine m_ldc2 (x := 6385252) C dX12_goesOn_337 lc_KilnBenchModel_286 rfl ?_
    refine f_callVi (As := [vJ 6385252]) (st := []) C dX12_goesOn_340 ml_KilnBenchModel_312 rfl (by decide) rfl rfl rfl (Nat.le_of_ble_eq_true rfl) h (fun r2 μ1 h => ?_)
    refine o_istore [some (vR 34 0), some (vI l1), some (vI l2), some (vI l3), some (vI r2)] C dX12_goesOn_343 (by decide) rfl ?_
    refine m_aload_n C dX12_goesOn_345 rfl ?_
    refine m_iload C dX12_goesOn_346 rfl ?_
    refine m_if_eq (tgt := 355) C dX12_goesOn_348 (by decide) (fun c => ?_) (fun c => ?_)
    · have h := h.1 c
      refine m_iconst C dX12_goesOn_355 (by unfold in32; omega) ?_
      refine f_callVv (As := [vI 1]) (st := []) C dX12_goesOn_356 ml_KilnBenchModel_325 rfl (by decide) rfl rfl rfl (Nat.le_of_ble_eq_true rfl) h (fun μ4 h => ?_)
      refine m_aload_n C dX12_goesOn_359 rfl ?_
      refine m_iload C dX12_goesOn_360 rfl ?_
      refine m_if_eq (tgt := 370) C dX12_goesOn_362 (by decide) (fun c => ?_) (fun c => ?_)
      · have h := h.1 c
        refine m_bipush C dX12_goesOn_370 (by omega) ?_
        refine f_callVv (As := [vI 42]) (st := []) C dX12_goesOn_372 ml_KilnBenchModel_316 rfl (by decide) rfl rfl rfl (Nat.le_of_ble_eq_true rfl) h (fun μ5 h => ?_)
        refine m_aload_n C dX12_goesOn_375 rfl ?_
        refine f_getA C dX12_goesOn_376 fl_KilnBenchModel_109 rfl (by decide) (by decide) (by decide) (by decide) ?_
        refine m_iload_n C dX12_goesOn_379 rfl ?_
        refine m_iconst C dX12_goesOn_380 (by unfold in32; omega) ?_
        obtain ⟨hb, h⟩ := h
        refine f_iast C dX12_goesOn_381 (m_arO (a := 0) (len := 20) rfl rfl) (by decide) hb ?_
        refine n_mem (fun μ6 eμ6 => ?_)
        have h := h μ6 eμ6
        refine m_aload_n C dX12_goesOn_382 rfl ?_
        refine f_getA C dX12_goesOn_383 fl_KilnBenchModel_112 rfl (by decide) (by decide) (by decide) (by decide) ?_
        refine m_iload_n C dX12_goesOn_386 rfl ?_
        refine m_iconst C dX12_goesOn_387 (by unfold in32; omega) ?_
        obtain ⟨hb, h⟩ := h
        refine f_zast C dX12_goesOn_388 (m_arO (a := 2) (len := 20) rfl rfl) (by decide) hb (by decide) ?_
        refine n_mem (fun μ7 eμ7 => ?_)
        have h := h μ7 eμ7
        refine m_aload_n C dX12_goesOn_389 rfl ?_
        refine f_callVv (As := []) (st := []) C dX12_goesOn_390 ml_KilnBenchModel_241 rfl (by decide) rfl rfl rfl (Nat.le_of_ble_eq_true rfl) h (fun μ8 h => ?_)
        refine m_aload_n C dX12_goesOn_393 rfl ?_
        refine m_iconst C dX12_goesOn_394 (by unfold in32; omega) ?_
        refine f_putZ C dX12_goesOn_395 fl_KilnBenchModel_134 rfl (by decide) (by decide) (by decide) (by decide) ?_
        refine n_mem (fun μ9 eμ9 => ?_)
        have h := h μ9 eμ9
        refine m_iconst C dX12_goesOn_398 (by unfold in32; omega) ?_
        exact f_zret C R rfl dX12_goesOn_399 (by decide) h
      · have h := h.2 c
        refine m_bipush C dX12_goesOn_365 (by omega) ?_
        refine m_goto (tgt := 372) C dX12_goesOn_367 (by decide) ?_
        refine f_callVv (As := [vI 41]) (st := []) C dX12_goesOn_372 ml_KilnBenchModel_316 rfl (by decide) rfl rfl rfl (Nat.le_of_ble_eq_true rfl) h (fun μ10 h => ?_)
        refine m_aload_n C dX12_goesOn_375 rfl ?_
        refine f_getA C dX12_goesOn_376 fl_KilnBenchModel_109 rfl (by decide) (by decide) (by decide) (by decide) ?_
        refine m_iload_n C dX12_goesOn_379 rfl ?_
        refine m_iconst C dX12_goesOn_380 (by unfold in32; omega) ?_
        obtain ⟨hb, h⟩ := h
        refine f_iast C dX12_goesOn_381 (m_arO (a := 0) (len := 20) rfl rfl) (by decide) hb ?_
        refine n_mem (fun μ11 eμ11 => ?_)
        have h := h μ11 eμ11
        refine m_aload_n C dX12_goesOn_382 rfl ?_
        refine f_getA C dX12_goesOn_383 fl_KilnBenchModel_112 rfl (by decide) (by decide) (by decide) (by decide) ?_
        refine m_iload_n C dX12_goesOn_386 rfl ?_
        refine m_iconst C dX12_goesOn_387 (by unfold in32; omega) ?_
        obtain ⟨hb, h⟩ := h
        refine f_zast C dX12_goesOn_388 (m_arO (a := 2) (len := 20) rfl rfl) (by decide) hb (by decide) ?_
        refine n_mem (fun μ12 eμ12 => ?_)
        have h := h μ12 eμ12
        refine m_aload_n C dX12_goesOn_389 rfl ?_
        refine f_callVv (As := []) (st := []) C dX12_goesOn_390 ml_KilnBenchModel_241 rfl (by decide) rfl rfl rfl (Nat.le_of_ble_eq_true rfl) h (fun μ13 h => ?_)
        refine m_aload_n C dX12_goesOn_393 rfl ?_
        refine m_iconst C dX12_goesOn_394 (by unfold in32; omega) ?_
        refine f_putZ C dX12_goesOn_395 fl_KilnBenchModel_134 rfl (by decide) (by decide) (by decide) (by decide) ?_
        refine n_mem (fun μ14 eμ14 => ?_)
        have h := h μ14 eμ14
        refine m_iconst C dX12_goesOn_398 (by unfold in32; omega) ?_
        exact f_zret C R rfl dX12_goesOn_399 (by decide) h
    · have h := h.2 c
      refine m_iconst C dX12_goesOn_351 (by unfold in32; omega) ?_
      refine m_goto (tgt := 356) C dX12_goesOn_352 (by decide) ?_
      refine f_callVv (As := [vI 2]) (st := []) C dX12_goesOn_356 ml_KilnBenchModel_325 rfl (by decide) rfl rfl rfl (Nat.le_of_ble_eq_true rfl) h (fun μ15 h => ?_)
      refine m_aload_n C dX12_goesOn_359 rfl ?_
      refine m_iload C dX12_goesOn_360 rfl ?_
      refine m_if_eq (tgt := 370) C dX12_goesOn_362 (by decide) (fun c => ?_) (fun c => ?_)
      · have h := h.1 c
        refine m_bipush C dX12_goesOn_370 (by omega) ?_
        refine f_callVv (As := [vI 42]) (st := []) C dX12_goesOn_372 ml_KilnBenchModel_316 rfl (by decide) rfl rfl rfl (Nat.le_of_ble_eq_true rfl) h (fun μ16 h => ?_)
        refine m_aload_n C dX12_goesOn_375 rfl ?_
        refine f_getA C dX12_goesOn_376 fl_KilnBenchModel_109 rfl (by decide) (by decide) (by decide) (by decide) ?_
        refine m_iload_n C dX12_goesOn_379 rfl ?_
        refine m_iconst C dX12_goesOn_380 (by unfold in32; omega) ?_
        obtain ⟨hb, h⟩ := h
        refine f_iast C dX12_goesOn_381 (m_arO (a := 0) (len := 20) rfl rfl) (by decide) hb ?_
        refine n_mem (fun μ17 eμ17 => ?_)
        have h := h μ17 eμ17
        refine m_aload_n C dX12_goesOn_382 rfl ?_
        refine f_getA C dX12_goesOn_383 fl_KilnBenchModel_112 rfl (by decide) (by decide) (by decide) (by decide) ?_
        refine m_iload_n C dX12_goesOn_386 rfl ?_
        refine m_iconst C dX12_goesOn_387 (by unfold in32; omega) ?_
        obtain ⟨hb, h⟩ := h
        refine f_zast C dX12_goesOn_388 (m_arO (a := 2) (len := 20) rfl rfl) (by decide) hb (by decide) ?_
        refine n_mem (fun μ18 eμ18 => ?_)
        have h := h μ18 eμ18
        refine m_aload_n C dX12_goesOn_389 rfl ?_
        refine f_callVv (As := []) (st := []) C dX12_goesOn_390 ml_KilnBenchModel_241 rfl (by decide) rfl rfl rfl (Nat.le_of_ble_eq_true rfl) h (fun μ19 h => ?_)
        refine m_aload_n C dX12_goesOn_393 rfl ?_
        refine m_iconst C dX12_goesOn_394 (by unfold in32; omega) ?_
        refine f_putZ C dX12_goesOn_395 fl_KilnBenchModel_134 rfl (by decide) (by decide) (by decide) (by decide) ?_
        refine n_mem (fun μ20 eμ20 => ?_)
        have h := h μ20 eμ20
        refine m_iconst C dX12_goesOn_398 (by unfold in32; omega) ?_
        exact f_zret C R rfl dX12_goesOn_399 (by decide) h
      · have h := h.2 c
        refine m_bipush C dX12_goesOn_365 (by omega) ?_
        refine m_goto (tgt := 372) C dX12_goesOn_367 (by decide) ?_
        refine f_callVv (As := [vI 41]) (st := []) C dX12_goesOn_372 ml_KilnBenchModel_316 rfl (by decide) rfl rfl rfl (Nat.le_of_ble_eq_true rfl) h (fun μ21 h => ?_)
        refine m_aload_n C dX12_goesOn_375 rfl ?_
        refine f_getA C dX12_goesOn_376 fl_KilnBenchModel_109 rfl (by decide) (by decide) (by decide) (by decide) ?_
        refine m_iload_n C dX12_goesOn_379 rfl ?_
        refine m_iconst C dX12_goesOn_380 (by unfold in32; omega) ?_
        obtain ⟨hb, h⟩ := h
        refine f_iast C dX12_goesOn_381 (m_arO (a := 0) (len := 20) rfl rfl) (by decide) hb ?_
        refine n_mem (fun μ22 eμ22 => ?_)
        have h := h μ22 eμ22
        refine m_aload_n C dX12_goesOn_382 rfl ?_
        refine f_getA C dX12_goesOn_383 fl_KilnBenchModel_112 rfl (by decide) (by decide) (by decide) (by decide) ?_
        refine m_iload_n C dX12_goesOn_386 rfl ?_
        refine m_iconst C dX12_goesOn_387 (by unfold in32; omega) ?_
        obtain ⟨hb, h⟩ := h
        refine f_zast C dX12_goesOn_388 (m_arO (a := 2) (len := 20) rfl rfl) (by decide) hb (by decide) ?_
        refine n_mem (fun μ23 eμ23 => ?_)
        have h := h μ23 eμ23
        refine m_aload_n C dX12_goesOn_389 rfl ?_
        refine f_callVv (As := []) (st := []) C dX12_goesOn_390 ml_KilnBenchModel_241 rfl (by decide) rfl rfl rfl (Nat.le_of_ble_eq_true rfl) h (fun μ24 h => ?_)
        refine m_aload_n C dX12_goesOn_393 rfl ?_
        refine m_iconst C dX12_goesOn_394 (by unfold in32; omega) ?_
        refine f_putZ C dX12_goesOn_395 fl_KilnBenchModel_134 rfl (by decide) (by decide) (by decide) (by decide) ?_
        refine n_mem (fun μ25 eμ25 => ?_)
        have h := h μ25 eμ25
        refine m_iconst C dX12_goesOn_398 (by unfold in32; omega) ?_
        exact f_zret C R rfl dX12_goesOn_399 (by decide) h
  · have h := h.2 c
    refine m_iconst C dX12_goesOn_334 (by unfold in32; omega) ?_
    exact f_zret C R rfl dX12_goesOn_335 (by decide) h

set_option maxRecDepth 20000 in
theorem VX12_goesOn_400 {G : m_G} {X : m_X} {d : Nat} {K : Int → m_M → Prop} (C : mC G X YX12_goesOn (d + 1)) (R : r_i G X K) {μ : m_M} {l1 : Int} {l2 : Int} {l3 : Int}
    (h : ((l3 = 0) → mW G X YX12_goesOn μ 422 [some (vR 34 0), some (vI l1), some (vI l2), some (vI l3), none] []) ∧ ((¬ l3 = 0) → (0 ≤ l1 ∧ l1 < 20) ∧ ((¬ (μ 34 33 l1.toNat) = 0) → mW G X YX12_goesOn μ 422 [some (vR 34 0), some (vI l1), some (vI l2), some (vI l3), none] []) ∧ ((μ 34 33 l1.toNat = 0) → c_v G d YX12_blame [vR 34 0, vI 1, vI (μ 34 0 4)] μ (fun μ1 => mW G X YX12_goesOn μ1 422 [some (vR 34 0), some (vI l1), some (vI l2), some (vI l3), none] [])))) :
    mW G X YX12_goesOn μ 400 [some (vR 34 0), some (vI l1), some (vI l2), some (vI l3), none] [] := by
  refine m_iload_n C dX12_goesOn_400 rfl ?_
  refine m_if_eq (tgt := 422) C dX12_goesOn_401 (by decide) (fun c => ?_) (fun c => ?_)
  · have h := h.1 c
    exact h
  · have h := h.2 c
    refine m_aload_n C dX12_goesOn_404 rfl ?_
    refine f_getA C dX12_goesOn_405 fl_KilnBenchModel_109 rfl (by decide) (by decide) (by decide) (by decide) ?_
    refine m_iload_n C dX12_goesOn_408 rfl ?_
    obtain ⟨hb, h⟩ := h
    refine f_iald C dX12_goesOn_409 (m_arO (a := 0) (len := 20) rfl rfl) (by decide) hb ?_
    refine m_if_ne (tgt := 422) C dX12_goesOn_410 (by decide) (fun c => ?_) (fun c => ?_)
    · have h := h.1 c
      exact h
    · have h := h.2 c
      refine m_aload_n C dX12_goesOn_413 rfl ?_
      refine m_iconst C dX12_goesOn_414 (by unfold in32; omega) ?_
      refine m_aload_n C dX12_goesOn_415 rfl ?_
      refine f_getI C dX12_goesOn_416 fl_KilnBenchModel_23 rfl (by decide) (by decide) ?_
      refine f_callVv (As := [vI 1, vI (μ 34 0 4)]) (st := []) C dX12_goesOn_419 ml_KilnBenchModel_224 rfl (by decide) rfl rfl rfl (Nat.le_of_ble_eq_true rfl) h (fun μ1 h => ?_)
      exact h

set_option maxRecDepth 20000 in
theorem VX12_goesOn_422 {G : m_G} {X : m_X} {d : Nat} {K : Int → m_M → Prop} (C : mC G X YX12_goesOn (d + 1)) (R : r_i G X K) {μ : m_M} {l1 : Int} {l2 : Int} {l3 : Int}
    (h : ((2 ≤ l2) → ((l2 = 3) → mW G X YX12_goesOn μ 452 [some (vR 34 0), some (vI l1), some (vI l2), some (vI l3), none] []) ∧ ((¬ l2 = 3) → ((¬ l2 = 6) → ((¬ l2 = 5) → c_i G d YX12_isSign [vR 34 0, vI 41] μ (fun r2 μ1 => ((¬ r2 = 0) → mW G X YX12_goesOn μ1 546 [some (vR 34 0), some (vI l1), some (vI l2), some (vI l3), none] []) ∧ ((r2 = 0) → c_v G d YX12_blame [vR 34 0, vI 1, vI (μ1 34 0 4)] μ1 (fun μ3 => mW G X YX12_goesOn μ3 546 [some (vR 34 0), some (vI l1), some (vI l2), some (vI l3), none] [])))) ∧ ((l2 = 5) → c_i G d YX12_isSign [vR 34 0, vI 93] μ (fun r5 μ4 => ((¬ r5 = 0) → mW G X YX12_goesOn μ4 546 [some (vR 34 0), some (vI l1), some (vI l2), some (vI l3), none] []) ∧ ((r5 = 0) → c_v G d YX12_blame [vR 34 0, vI 1, vI (μ4 34 0 4)] μ4 (fun μ6 => mW G X YX12_goesOn μ6 546 [some (vR 34 0), some (vI l1), some (vI l2), some (vI l3), none] []))))) ∧ ((l2 = 6) → mW G X YX12_goesOn μ 452 [some (vR 34 0), some (vI l1), some (vI l2), some (vI l3), none] []))) ∧ ((¬ 2 ≤ l2) → ((¬ (μ 34 0 8) = 0) → K 0 μ) ∧ ((μ 34 0 8 = 0) → c_v G d YX12_joins [vR 34 0, vI 1] μ (fun μ7 => K 0 μ7)))) :
    mW G X YX12_goesOn μ 422 [some (vR 34 0), some (vI l1), some (vI l2), some (vI l3), none] [] := by
  refine m_iload_n C dX12_goesOn_422 rfl ?_
  refine m_iconst C dX12_goesOn_423 (by unfold in32; omega) ?_
  refine m_icmp_ge (tgt := 441) C dX12_goesOn_424 (by decide) (fun c => ?_) (fun c => ?_)
  · have h := h.1 c
    refine m_iload_n C dX12_goesOn_441 rfl ?_
    refine m_iconst C dX12_goesOn_442 (by unfold in32; omega) ?_
    refine m_icmp_eq (tgt := 452) C dX12_goesOn_443 (by decide) (fun c => ?_) (fun c => ?_)
    · have h := h.1 c
      exact h
    · have h := h.2 c
      refine m_iload_n C dX12_goesOn_446 rfl ?_
      refine m_bipush C dX12_goesOn_447 (by omega) ?_
      refine m_icmp_ne (tgt := 518) C dX12_goesOn_449 (by decide) (fun c => ?_) (fun c => ?_)
      · have h := h.1 c
        refine m_aload_n C dX12_goesOn_518 rfl ?_
        refine m_iload_n C dX12_goesOn_519 rfl ?_
        refine m_iconst C dX12_goesOn_520 (by unfold in32; omega) ?_
        refine m_icmp_ne (tgt := 529) C dX12_goesOn_521 (by decide) (fun c => ?_) (fun c => ?_)
        · have h := h.1 c
          refine m_bipush C dX12_goesOn_529 (by omega) ?_
          refine f_callVi (As := [vI 41]) (st := []) C dX12_goesOn_531 ml_KilnBenchModel_238 rfl (by decide) rfl rfl rfl (Nat.le_of_ble_eq_true rfl) h (fun r2 μ1 h => ?_)
          refine m_if_ne (tgt := 546) C dX12_goesOn_534 (by decide) (fun c => ?_) (fun c => ?_)
          · have h := h.1 c
            exact h
          · have h := h.2 c
            refine m_aload_n C dX12_goesOn_537 rfl ?_
            refine m_iconst C dX12_goesOn_538 (by unfold in32; omega) ?_
            refine m_aload_n C dX12_goesOn_539 rfl ?_
            refine f_getI C dX12_goesOn_540 fl_KilnBenchModel_23 rfl (by decide) (by decide) ?_
            refine f_callVv (As := [vI 1, vI (μ1 34 0 4)]) (st := []) C dX12_goesOn_543 ml_KilnBenchModel_224 rfl (by decide) rfl rfl rfl (Nat.le_of_ble_eq_true rfl) h (fun μ3 h => ?_)
            exact h
        · have h := h.2 c
          refine m_bipush C dX12_goesOn_524 (by omega) ?_
          refine m_goto (tgt := 531) C dX12_goesOn_526 (by decide) ?_
          refine f_callVi (As := [vI 93]) (st := []) C dX12_goesOn_531 ml_KilnBenchModel_238 rfl (by decide) rfl rfl rfl (Nat.le_of_ble_eq_true rfl) h (fun r5 μ4 h => ?_)
          refine m_if_ne (tgt := 546) C dX12_goesOn_534 (by decide) (fun c => ?_) (fun c => ?_)
          · have h := h.1 c
            exact h
          · have h := h.2 c
            refine m_aload_n C dX12_goesOn_537 rfl ?_
            refine m_iconst C dX12_goesOn_538 (by unfold in32; omega) ?_
            refine m_aload_n C dX12_goesOn_539 rfl ?_
            refine f_getI C dX12_goesOn_540 fl_KilnBenchModel_23 rfl (by decide) (by decide) ?_
            refine f_callVv (As := [vI 1, vI (μ4 34 0 4)]) (st := []) C dX12_goesOn_543 ml_KilnBenchModel_224 rfl (by decide) rfl rfl rfl (Nat.le_of_ble_eq_true rfl) h (fun μ6 h => ?_)
            exact h
      · have h := h.2 c
        exact h
  · have h := h.2 c
    refine m_aload_n C dX12_goesOn_427 rfl ?_
    refine f_getI C dX12_goesOn_428 fl_KilnBenchModel_36 rfl (by decide) (by decide) ?_
    refine m_if_ne (tgt := 439) C dX12_goesOn_431 (by decide) (fun c => ?_) (fun c => ?_)
    · have h := h.1 c
      refine m_iconst C dX12_goesOn_439 (by unfold in32; omega) ?_
      exact f_zret C R rfl dX12_goesOn_440 (by decide) h
    · have h := h.2 c
      refine m_aload_n C dX12_goesOn_434 rfl ?_
      refine m_iconst C dX12_goesOn_435 (by unfold in32; omega) ?_
      refine f_callVv (As := [vI 1]) (st := []) C dX12_goesOn_436 ml_KilnBenchModel_325 rfl (by decide) rfl rfl rfl (Nat.le_of_ble_eq_true rfl) h (fun μ7 h => ?_)
      refine m_iconst C dX12_goesOn_439 (by unfold in32; omega) ?_
      exact f_zret C R rfl dX12_goesOn_440 (by decide) h

set_option maxRecDepth 20000 in
theorem VX12_goesOn_452 {G : m_G} {X : m_X} {d : Nat} {K : Int → m_M → Prop} (C : mC G X YX12_goesOn (d + 1)) (R : r_i G X K) {μ : m_M} {l1 : Int} {l2 : Int} {l3 : Int}
    (h : c_i G d YX12_isSign [vR 34 0, vI 44] μ (fun r2 μ1 => ((¬ r2 = 0) → mW G X YX12_goesOn μ1 470 [some (vR 34 0), some (vI l1), some (vI l2), some (vI l3), none] []) ∧ ((r2 = 0) → c_v G d YX12_blame [vR 34 0, vI 1, vI (μ1 34 0 4)] μ1 (fun μ3 => mW G X YX12_goesOn μ3 470 [some (vR 34 0), some (vI l1), some (vI l2), some (vI l3), none] [])))) :
    mW G X YX12_goesOn μ 452 [some (vR 34 0), some (vI l1), some (vI l2), some (vI l3), none] [] := by
  refine m_aload_n C dX12_goesOn_452 rfl ?_
  refine m_bipush C dX12_goesOn_453 (by omega) ?_
  refine f_callVi (As := [vI 44]) (st := []) C dX12_goesOn_455 ml_KilnBenchModel_238 rfl (by decide) rfl rfl rfl (Nat.le_of_ble_eq_true rfl) h (fun r2 μ1 h => ?_)
  refine m_if_ne (tgt := 470) C dX12_goesOn_458 (by decide) (fun c => ?_) (fun c => ?_)
  · have h := h.1 c
    exact h
  · have h := h.2 c
    refine m_aload_n C dX12_goesOn_461 rfl ?_
    refine m_iconst C dX12_goesOn_462 (by unfold in32; omega) ?_
    refine m_aload_n C dX12_goesOn_463 rfl ?_
    refine f_getI C dX12_goesOn_464 fl_KilnBenchModel_23 rfl (by decide) (by decide) ?_
    refine f_callVv (As := [vI 1, vI (μ1 34 0 4)]) (st := []) C dX12_goesOn_467 ml_KilnBenchModel_224 rfl (by decide) rfl rfl rfl (Nat.le_of_ble_eq_true rfl) h (fun μ3 h => ?_)
    exact h

set_option maxRecDepth 20000 in
theorem VX12_goesOn_470 {G : m_G} {X : m_X} {d : Nat} {K : Int → m_M → Prop} (C : mC G X YX12_goesOn (d + 1)) (R : r_i G X K) {μ : m_M} {l1 : Int} {l2 : Int} {l3 : Int}
    (h : ((μ 34 0 8 ≤ 0) → c_v G d YX12_joins [vR 34 0, vI 1] μ (fun μ1 => ((¬ l2 = 3) → (0 ≤ l1 ∧ l1 < 20) ∧ ∀ μ2 : m_M, μ2 = m_up μ1 34 32 l1.toNat 3 → (0 ≤ l1 ∧ l1 < 20) ∧ ∀ μ3 : m_M, μ3 = m_up μ2 34 33 l1.toNat 0 → c_v G d YX12_ahead [vR 34 0] μ3 (fun μ4 => ∀ μ5 : m_M, μ5 = m_up μ4 34 0 40 0 → K 1 μ5)) ∧ ((l2 = 3) → (0 ≤ l1 ∧ l1 < 20) ∧ ∀ μ6 : m_M, μ6 = m_up μ1 34 32 l1.toNat 4 → (0 ≤ l1 ∧ l1 < 20) ∧ ∀ μ7 : m_M, μ7 = m_up μ6 34 33 l1.toNat 0 → c_v G d YX12_ahead [vR 34 0] μ7 (fun μ8 => ∀ μ9 : m_M, μ9 = m_up μ8 34 0 40 0 → K 1 μ9)))) ∧ ((¬ μ 34 0 8 ≤ 0) → K 0 μ)) :
    mW G X YX12_goesOn μ 470 [some (vR 34 0), some (vI l1), some (vI l2), some (vI l3), none] [] := by
  refine m_aload_n C dX12_goesOn_470 rfl ?_
  refine f_getI C dX12_goesOn_471 fl_KilnBenchModel_36 rfl (by decide) (by decide) ?_
  refine m_if_le (tgt := 479) C dX12_goesOn_474 (by decide) (fun c => ?_) (fun c => ?_)
  · have h := h.1 c
    refine m_aload_n C dX12_goesOn_479 rfl ?_
    refine m_iconst C dX12_goesOn_480 (by unfold in32; omega) ?_
    refine f_callVv (As := [vI 1]) (st := []) C dX12_goesOn_481 ml_KilnBenchModel_325 rfl (by decide) rfl rfl rfl (Nat.le_of_ble_eq_true rfl) h (fun μ1 h => ?_)
    refine m_aload_n C dX12_goesOn_484 rfl ?_
    refine f_getA C dX12_goesOn_485 fl_KilnBenchModel_106 rfl (by decide) (by decide) (by decide) (by decide) ?_
    refine m_iload_n C dX12_goesOn_488 rfl ?_
    refine m_iload_n C dX12_goesOn_489 rfl ?_
    refine m_iconst C dX12_goesOn_490 (by unfold in32; omega) ?_
    refine m_icmp_ne (tgt := 498) C dX12_goesOn_491 (by decide) (fun c => ?_) (fun c => ?_)
    · have h := h.1 c
      refine m_iconst C dX12_goesOn_498 (by unfold in32; omega) ?_
      obtain ⟨hb, h⟩ := h
      refine f_iast C dX12_goesOn_499 (m_arO (a := 0) (len := 20) rfl rfl) (by decide) hb ?_
      refine n_mem (fun μ2 eμ2 => ?_)
      have h := h μ2 eμ2
      refine m_aload_n C dX12_goesOn_500 rfl ?_
      refine f_getA C dX12_goesOn_501 fl_KilnBenchModel_109 rfl (by decide) (by decide) (by decide) (by decide) ?_
      refine m_iload_n C dX12_goesOn_504 rfl ?_
      refine m_iconst C dX12_goesOn_505 (by unfold in32; omega) ?_
      obtain ⟨hb, h⟩ := h
      refine f_iast C dX12_goesOn_506 (m_arO (a := 0) (len := 20) rfl rfl) (by decide) hb ?_
      refine n_mem (fun μ3 eμ3 => ?_)
      have h := h μ3 eμ3
      refine m_aload_n C dX12_goesOn_507 rfl ?_
      refine f_callVv (As := []) (st := []) C dX12_goesOn_508 ml_KilnBenchModel_241 rfl (by decide) rfl rfl rfl (Nat.le_of_ble_eq_true rfl) h (fun μ4 h => ?_)
      refine m_aload_n C dX12_goesOn_511 rfl ?_
      refine m_iconst C dX12_goesOn_512 (by unfold in32; omega) ?_
      refine f_putZ C dX12_goesOn_513 fl_KilnBenchModel_134 rfl (by decide) (by decide) (by decide) (by decide) ?_
      refine n_mem (fun μ5 eμ5 => ?_)
      have h := h μ5 eμ5
      refine m_iconst C dX12_goesOn_516 (by unfold in32; omega) ?_
      exact f_zret C R rfl dX12_goesOn_517 (by decide) h
    · have h := h.2 c
      refine m_iconst C dX12_goesOn_494 (by unfold in32; omega) ?_
      refine m_goto (tgt := 499) C dX12_goesOn_495 (by decide) ?_
      obtain ⟨hb, h⟩ := h
      refine f_iast C dX12_goesOn_499 (m_arO (a := 0) (len := 20) rfl rfl) (by decide) hb ?_
      refine n_mem (fun μ6 eμ6 => ?_)
      have h := h μ6 eμ6
      refine m_aload_n C dX12_goesOn_500 rfl ?_
      refine f_getA C dX12_goesOn_501 fl_KilnBenchModel_109 rfl (by decide) (by decide) (by decide) (by decide) ?_
      refine m_iload_n C dX12_goesOn_504 rfl ?_
      refine m_iconst C dX12_goesOn_505 (by unfold in32; omega) ?_
      obtain ⟨hb, h⟩ := h
      refine f_iast C dX12_goesOn_506 (m_arO (a := 0) (len := 20) rfl rfl) (by decide) hb ?_
      refine n_mem (fun μ7 eμ7 => ?_)
      have h := h μ7 eμ7
      refine m_aload_n C dX12_goesOn_507 rfl ?_
      refine f_callVv (As := []) (st := []) C dX12_goesOn_508 ml_KilnBenchModel_241 rfl (by decide) rfl rfl rfl (Nat.le_of_ble_eq_true rfl) h (fun μ8 h => ?_)
      refine m_aload_n C dX12_goesOn_511 rfl ?_
      refine m_iconst C dX12_goesOn_512 (by unfold in32; omega) ?_
      refine f_putZ C dX12_goesOn_513 fl_KilnBenchModel_134 rfl (by decide) (by decide) (by decide) (by decide) ?_
      refine n_mem (fun μ9 eμ9 => ?_)
      have h := h μ9 eμ9
      refine m_iconst C dX12_goesOn_516 (by unfold in32; omega) ?_
      exact f_zret C R rfl dX12_goesOn_517 (by decide) h
  · have h := h.2 c
    refine m_iconst C dX12_goesOn_477 (by unfold in32; omega) ?_
    exact f_zret C R rfl dX12_goesOn_478 (by decide) h

set_option maxRecDepth 20000 in
theorem VX12_goesOn_546 {G : m_G} {X : m_X} {d : Nat} {K : Int → m_M → Prop} (C : mC G X YX12_goesOn (d + 1)) (R : r_i G X K) {μ : m_M} {l1 : Int} {l2 : Int} {l3 : Int}
    (h : ((μ 34 0 8 ≤ 0) → c_v G d YX12_joins [vR 34 0, vI 1] μ (fun μ1 => ∀ μ2 : m_M, μ2 = m_up μ1 34 0 36 (w32 ((μ1 34 0 36) - 1)) → ∀ μ3 : m_M, μ3 = m_up μ2 34 0 37 (w32 ((μ2 34 0 37) - 1)) → ((¬ l2 = 4) → mW G X YX12_goesOn μ3 596 [some (vR 34 0), some (vI l1), some (vI l2), some (vI l3), none] []) ∧ ((l2 = 4) → (0 ≤ l1 ∧ l1 < 20) ∧ c_v G d YX12_add [vR 34 0, vI (μ3 34 35 l1.toNat), vI 0] μ3 (fun μ4 => mW G X YX12_goesOn μ4 596 [some (vR 34 0), some (vI l1), some (vI l2), some (vI l3), none] [])))) ∧ ((¬ μ 34 0 8 ≤ 0) → K 0 μ)) :
    mW G X YX12_goesOn μ 546 [some (vR 34 0), some (vI l1), some (vI l2), some (vI l3), none] [] := by
  refine m_aload_n C dX12_goesOn_546 rfl ?_
  refine f_getI C dX12_goesOn_547 fl_KilnBenchModel_36 rfl (by decide) (by decide) ?_
  refine m_if_le (tgt := 555) C dX12_goesOn_550 (by decide) (fun c => ?_) (fun c => ?_)
  · have h := h.1 c
    refine m_aload_n C dX12_goesOn_555 rfl ?_
    refine m_iconst C dX12_goesOn_556 (by unfold in32; omega) ?_
    refine f_callVv (As := [vI 1]) (st := []) C dX12_goesOn_557 ml_KilnBenchModel_325 rfl (by decide) rfl rfl rfl (Nat.le_of_ble_eq_true rfl) h (fun μ1 h => ?_)
    refine m_aload_n C dX12_goesOn_560 rfl ?_
    refine m_dup C dX12_goesOn_561 rfl ?_
    refine f_getI C dX12_goesOn_562 fl_KilnBenchModel_122 rfl (by decide) (by decide) ?_
    refine m_iconst C dX12_goesOn_565 (by unfold in32; omega) ?_
    refine m_isub C dX12_goesOn_566 ?_
    refine f_putI C dX12_goesOn_567 fl_KilnBenchModel_122 rfl (by decide) (by decide) (by decide) ?_
    refine n_mem (fun μ2 eμ2 => ?_)
    have h := h μ2 eμ2
    refine m_aload_n C dX12_goesOn_570 rfl ?_
    refine m_dup C dX12_goesOn_571 rfl ?_
    refine f_getI C dX12_goesOn_572 fl_KilnBenchModel_125 rfl (by decide) (by decide) ?_
    refine m_iconst C dX12_goesOn_575 (by unfold in32; omega) ?_
    refine m_isub C dX12_goesOn_576 ?_
    refine f_putI C dX12_goesOn_577 fl_KilnBenchModel_125 rfl (by decide) (by decide) (by decide) ?_
    refine n_mem (fun μ3 eμ3 => ?_)
    have h := h μ3 eμ3
    refine m_iload_n C dX12_goesOn_580 rfl ?_
    refine m_iconst C dX12_goesOn_581 (by unfold in32; omega) ?_
    refine m_icmp_ne (tgt := 596) C dX12_goesOn_582 (by decide) (fun c => ?_) (fun c => ?_)
    · have h := h.1 c
      exact h
    · have h := h.2 c
      refine m_aload_n C dX12_goesOn_585 rfl ?_
      refine m_aload_n C dX12_goesOn_586 rfl ?_
      refine f_getA C dX12_goesOn_587 fl_KilnBenchModel_116 rfl (by decide) (by decide) (by decide) (by decide) ?_
      refine m_iload_n C dX12_goesOn_590 rfl ?_
      obtain ⟨hb, h⟩ := h
      refine f_iald C dX12_goesOn_591 (m_arO (a := 0) (len := 20) rfl rfl) (by decide) hb ?_
      refine m_iconst C dX12_goesOn_592 (by unfold in32; omega) ?_
      refine f_callVv (As := [vI (μ3 34 35 l1.toNat), vI 0]) (st := []) C dX12_goesOn_593 ml_KilnBenchModel_303 rfl (by decide) rfl rfl rfl (Nat.le_of_ble_eq_true rfl) h (fun μ4 h => ?_)
      exact h
  · have h := h.2 c
    refine m_iconst C dX12_goesOn_553 (by unfold in32; omega) ?_
    exact f_zret C R rfl dX12_goesOn_554 (by decide) h

set_option maxRecDepth 20000 in
theorem VX12_goesOn_596 {G : m_G} {X : m_X} {d : Nat} {K : Int → m_M → Prop} (C : mC G X YX12_goesOn (d + 1)) (R : r_i G X K) {μ : m_M} {l1 : Int} {l2 : Int} {l3 : Int}
    (h : ((¬ l2 = 5) → c_v G d YX12_ahead [vR 34 0] μ (fun μ1 => K 1 μ1)) ∧ ((l2 = 5) → (0 ≤ w32 ((μ 34 0 36) - 1) ∧ w32 ((μ 34 0 36) - 1) < 20) ∧ ∀ μ2 : m_M, μ2 = m_up μ 34 33 (w32 ((μ 34 0 36) - 1)).toNat 2 → c_v G d YX12_ahead [vR 34 0] μ2 (fun μ3 => K 1 μ3))) :
    mW G X YX12_goesOn μ 596 [some (vR 34 0), some (vI l1), some (vI l2), some (vI l3), none] [] := by
  refine m_iload_n C dX12_goesOn_596 rfl ?_
  refine m_iconst C dX12_goesOn_597 (by unfold in32; omega) ?_
  refine m_icmp_ne (tgt := 613) C dX12_goesOn_598 (by decide) (fun c => ?_) (fun c => ?_)
  · have h := h.1 c
    refine m_aload_n C dX12_goesOn_613 rfl ?_
    refine f_callVv (As := []) (st := []) C dX12_goesOn_614 ml_KilnBenchModel_241 rfl (by decide) rfl rfl rfl (Nat.le_of_ble_eq_true rfl) h (fun μ1 h => ?_)
    refine m_iconst C dX12_goesOn_617 (by unfold in32; omega) ?_
    exact f_zret C R rfl dX12_goesOn_618 (by decide) h
  · have h := h.2 c
    refine m_aload_n C dX12_goesOn_601 rfl ?_
    refine f_getA C dX12_goesOn_602 fl_KilnBenchModel_109 rfl (by decide) (by decide) (by decide) (by decide) ?_
    refine m_aload_n C dX12_goesOn_605 rfl ?_
    refine f_getI C dX12_goesOn_606 fl_KilnBenchModel_122 rfl (by decide) (by decide) ?_
    refine m_iconst C dX12_goesOn_609 (by unfold in32; omega) ?_
    refine m_isub C dX12_goesOn_610 ?_
    refine m_iconst C dX12_goesOn_611 (by unfold in32; omega) ?_
    obtain ⟨hb, h⟩ := h
    refine f_iast C dX12_goesOn_612 (m_arO (a := 0) (len := 20) rfl rfl) (by decide) hb ?_
    refine n_mem (fun μ2 eμ2 => ?_)
    have h := h μ2 eμ2
    refine m_aload_n C dX12_goesOn_613 rfl ?_
    refine f_callVv (As := []) (st := []) C dX12_goesOn_614 ml_KilnBenchModel_241 rfl (by decide) rfl rfl rfl (Nat.le_of_ble_eq_true rfl) h (fun μ3 h => ?_)
    refine m_iconst C dX12_goesOn_617 (by unfold in32; omega) ?_
    exact f_zret C R rfl dX12_goesOn_618 (by decide) h

set_option maxRecDepth 20000 in
theorem VX12_reads_0 {G : m_G} {X : m_X} {d : Nat} {K : m_M → Prop} (C : mC G X YX12_reads (d + 1)) (R : r_v G X K) {μ : m_M} {a1 : Int}
    (h : ((μ 34 0 8 ≤ 0) → ∀ μ1 : m_M, μ1 = m_up μ 34 0 36 0 → ∀ μ2 : m_M, μ2 = m_up μ1 34 0 37 0 → ∀ μ3 : m_M, μ3 = m_up μ2 34 0 39 0 → ∀ μ4 : m_M, μ4 = m_up μ3 34 0 40 0 → ((a1 = 0) → c_v G d YX12_pushes [vR 34 0, vI 0] μ4 (fun μ5 => mW G X YX12_reads μ5 43 [some (vR 34 0), some (vI a1), some (vI 1)] [])) ∧ ((¬ a1 = 0) → c_v G d YX12_pushes [vR 34 0, vI 1] μ4 (fun μ7 => mW G X YX12_reads μ7 43 [some (vR 34 0), some (vI a1), some (vI 1)] []))) ∧ ((¬ μ 34 0 8 ≤ 0) → K μ)) :
    mW G X YX12_reads μ 0 [some (vR 34 0), some (vI a1), none] [] := by
  refine m_aload_n C dX12_reads_0 rfl ?_
  refine f_getI C dX12_reads_1 fl_KilnBenchModel_36 rfl (by decide) (by decide) ?_
  refine m_if_le (tgt := 8) C dX12_reads_4 (by decide) (fun c => ?_) (fun c => ?_)
  · have h := h.1 c
    refine m_aload_n C dX12_reads_8 rfl ?_
    refine m_iconst C dX12_reads_9 (by unfold in32; omega) ?_
    refine f_putI C dX12_reads_10 fl_KilnBenchModel_122 rfl (by decide) (by decide) (by decide) ?_
    refine n_mem (fun μ1 eμ1 => ?_)
    have h := h μ1 eμ1
    refine m_aload_n C dX12_reads_13 rfl ?_
    refine m_iconst C dX12_reads_14 (by unfold in32; omega) ?_
    refine f_putI C dX12_reads_15 fl_KilnBenchModel_125 rfl (by decide) (by decide) (by decide) ?_
    refine n_mem (fun μ2 eμ2 => ?_)
    have h := h μ2 eμ2
    refine m_aload_n C dX12_reads_18 rfl ?_
    refine m_iconst C dX12_reads_19 (by unfold in32; omega) ?_
    refine f_putI C dX12_reads_20 fl_KilnBenchModel_131 rfl (by decide) (by decide) (by decide) ?_
    refine n_mem (fun μ3 eμ3 => ?_)
    have h := h μ3 eμ3
    refine m_aload_n C dX12_reads_23 rfl ?_
    refine m_iconst C dX12_reads_24 (by unfold in32; omega) ?_
    refine f_putZ C dX12_reads_25 fl_KilnBenchModel_134 rfl (by decide) (by decide) (by decide) (by decide) ?_
    refine n_mem (fun μ4 eμ4 => ?_)
    have h := h μ4 eμ4
    refine m_aload_n C dX12_reads_28 rfl ?_
    refine m_iload_n C dX12_reads_29 rfl ?_
    refine m_if_eq (tgt := 37) C dX12_reads_30 (by decide) (fun c => ?_) (fun c => ?_)
    · have h := h.1 c
      refine m_iconst C dX12_reads_37 (by unfold in32; omega) ?_
      refine f_callVv (As := [vI 0]) (st := []) C dX12_reads_38 ml_KilnBenchModel_306 rfl (by decide) rfl rfl rfl (Nat.le_of_ble_eq_true rfl) h (fun μ5 h => ?_)
      refine m_iconst C dX12_reads_41 (by unfold in32; omega) ?_
      refine o_istore_n [some (vR 34 0), some (vI a1), some (vI 1)] C dX12_reads_42 (by decide) rfl ?_
      exact h
    · have h := h.2 c
      refine m_iconst C dX12_reads_33 (by unfold in32; omega) ?_
      refine m_goto (tgt := 38) C dX12_reads_34 (by decide) ?_
      refine f_callVv (As := [vI 1]) (st := []) C dX12_reads_38 ml_KilnBenchModel_306 rfl (by decide) rfl rfl rfl (Nat.le_of_ble_eq_true rfl) h (fun μ7 h => ?_)
      refine m_iconst C dX12_reads_41 (by unfold in32; omega) ?_
      refine o_istore_n [some (vR 34 0), some (vI a1), some (vI 1)] C dX12_reads_42 (by decide) rfl ?_
      exact h
  · have h := h.2 c
    exact f_vret C R rfl dX12_reads_7 h

set_option maxRecDepth 20000 in
theorem VX12_reads_43 {G : m_G} {X : m_X} {d : Nat} {K : m_M → Prop} (C : mC G X YX12_reads (d + 1)) (R : r_v G X K) {μ : m_M} {a1 : Int} {l2 : Int}
    (h : ((l2 = 0) → K μ) ∧ ((¬ l2 = 0) → ((¬ (μ 34 0 40) = 0) → c_i G d YX12_goesOn [vR 34 0] μ (fun r2 μ1 => ((r2 = 0) → mW G X YX12_reads μ1 43 [some (vR 34 0), some (vI a1), some (vI 0)] []) ∧ ((¬ r2 = 0) → ((¬ (μ1 34 0 8) = 0) → mW G X YX12_reads μ1 43 [some (vR 34 0), some (vI a1), some (vI 0)] []) ∧ ((μ1 34 0 8 = 0) → mW G X YX12_reads μ1 43 [some (vR 34 0), some (vI a1), some (vI 1)] [])))) ∧ ((μ 34 0 40 = 0) → c_i G d YX12_operand [vR 34 0] μ (fun r8 μ7 => (r8 = 0 ∨ r8 = 1) ∧ ∀ μ9 : m_M, μ9 = m_up μ7 34 0 40 r8 → ((l2 = 0) → mW G X YX12_reads μ9 43 [some (vR 34 0), some (vI a1), some (vI 0)] []) ∧ ((¬ l2 = 0) → ((¬ (μ9 34 0 8) = 0) → mW G X YX12_reads μ9 43 [some (vR 34 0), some (vI a1), some (vI 0)] []) ∧ ((μ9 34 0 8 = 0) → mW G X YX12_reads μ9 43 [some (vR 34 0), some (vI a1), some (vI 1)] [])))))) :
    mW G X YX12_reads μ 43 [some (vR 34 0), some (vI a1), some (vI l2)] [] := by
  refine m_iload_n C dX12_reads_43 rfl ?_
  refine m_if_eq (tgt := 90) C dX12_reads_44 (by decide) (fun c => ?_) (fun c => ?_)
  · have h := h.1 c
    exact f_vret C R rfl dX12_reads_90 h
  · have h := h.2 c
    refine m_aload_n C dX12_reads_47 rfl ?_
    refine f_getI C dX12_reads_48 fl_KilnBenchModel_134 rfl (by decide) (by decide) ?_
    refine m_if_ne (tgt := 65) C dX12_reads_51 (by decide) (fun c => ?_) (fun c => ?_)
    · have h := h.1 c
      refine m_aload_n C dX12_reads_65 rfl ?_
      refine f_callVi (As := []) (st := []) C dX12_reads_66 ml_KilnBenchModel_331 rfl (by decide) rfl rfl rfl (Nat.le_of_ble_eq_true rfl) h (fun r2 μ1 h => ?_)
      refine o_istore_n [some (vR 34 0), some (vI a1), some (vI r2)] C dX12_reads_69 (by decide) rfl ?_
      refine m_iload_n C dX12_reads_70 rfl ?_
      refine m_if_eq (tgt := 85) C dX12_reads_71 (by decide) (fun c => ?_) (fun c => ?_)
      · have h := h.1 c
        refine m_iconst C dX12_reads_85 (by unfold in32; omega) ?_
        refine o_istore_n [some (vR 34 0), some (vI a1), some (vI 0)] C dX12_reads_86 (by decide) rfl ?_
        refine m_goto (tgt := 43) C dX12_reads_87 (by decide) ?_
        exact h
      · have h := h.2 c
        refine m_aload_n C dX12_reads_74 rfl ?_
        refine f_getI C dX12_reads_75 fl_KilnBenchModel_36 rfl (by decide) (by decide) ?_
        refine m_if_ne (tgt := 85) C dX12_reads_78 (by decide) (fun c => ?_) (fun c => ?_)
        · have h := h.1 c
          refine m_iconst C dX12_reads_85 (by unfold in32; omega) ?_
          refine o_istore_n [some (vR 34 0), some (vI a1), some (vI 0)] C dX12_reads_86 (by decide) rfl ?_
          refine m_goto (tgt := 43) C dX12_reads_87 (by decide) ?_
          exact h
        · have h := h.2 c
          refine m_iconst C dX12_reads_81 (by unfold in32; omega) ?_
          refine m_goto (tgt := 86) C dX12_reads_82 (by decide) ?_
          refine o_istore_n [some (vR 34 0), some (vI a1), some (vI 1)] C dX12_reads_86 (by decide) rfl ?_
          refine m_goto (tgt := 43) C dX12_reads_87 (by decide) ?_
          exact h
    · have h := h.2 c
      refine m_aload_n C dX12_reads_54 rfl ?_
      refine m_aload_n C dX12_reads_55 rfl ?_
      refine f_callVi (As := []) (st := [vR 34 0]) C dX12_reads_56 ml_KilnBenchModel_328 rfl (by decide) rfl rfl rfl (Nat.le_of_ble_eq_true rfl) h (fun r8 μ7 h => ?_)
      obtain ⟨h01, h⟩ := h
      refine f_putZ C dX12_reads_59 fl_KilnBenchModel_134 rfl (by decide) (by decide) (by decide) h01 ?_
      refine n_mem (fun μ9 eμ9 => ?_)
      have h := h μ9 eμ9
      refine m_goto (tgt := 70) C dX12_reads_62 (by decide) ?_
      refine m_iload_n C dX12_reads_70 rfl ?_
      refine m_if_eq (tgt := 85) C dX12_reads_71 (by decide) (fun c => ?_) (fun c => ?_)
      · have h := h.1 c
        refine m_iconst C dX12_reads_85 (by unfold in32; omega) ?_
        refine o_istore_n [some (vR 34 0), some (vI a1), some (vI 0)] C dX12_reads_86 (by decide) rfl ?_
        refine m_goto (tgt := 43) C dX12_reads_87 (by decide) ?_
        exact h
      · have h := h.2 c
        refine m_aload_n C dX12_reads_74 rfl ?_
        refine f_getI C dX12_reads_75 fl_KilnBenchModel_36 rfl (by decide) (by decide) ?_
        refine m_if_ne (tgt := 85) C dX12_reads_78 (by decide) (fun c => ?_) (fun c => ?_)
        · have h := h.1 c
          refine m_iconst C dX12_reads_85 (by unfold in32; omega) ?_
          refine o_istore_n [some (vR 34 0), some (vI a1), some (vI 0)] C dX12_reads_86 (by decide) rfl ?_
          refine m_goto (tgt := 43) C dX12_reads_87 (by decide) ?_
          exact h
        · have h := h.2 c
          refine m_iconst C dX12_reads_81 (by unfold in32; omega) ?_
          refine m_goto (tgt := 86) C dX12_reads_82 (by decide) ?_
          refine o_istore_n [some (vR 34 0), some (vI a1), some (vI 1)] C dX12_reads_86 (by decide) rfl ?_
          refine m_goto (tgt := 43) C dX12_reads_87 (by decide) ?_
          exact h

set_option maxRecDepth 20000 in
theorem VX12_counts_0 {G : m_G} {X : m_X} {d : Nat} {K : Int → m_M → Prop} (C : mC G X YX12_counts (d + 1)) (R : r_i G X K) {μ : m_M} {a1 : Int}
    (h : ((¬ (μ 34 0 8) = 0) → ((¬ (μ 34 0 8) = 0) → ((¬ (μ 34 0 8) = 0) → K 0 μ) ∧ ((μ 34 0 8 = 0) → K 1 μ)) ∧ ((μ 34 0 8 = 0) → c_v G d YX12_ahead [vR 34 0] μ (fun μ1 => ((¬ (μ1 34 0 8) = 0) → K 0 μ1) ∧ ((μ1 34 0 8 = 0) → K 1 μ1)))) ∧ ((μ 34 0 8 = 0) → ((a1 = 0) → ((¬ (μ 34 0 8) = 0) → ((¬ (μ 34 0 8) = 0) → K 0 μ) ∧ ((μ 34 0 8 = 0) → K 1 μ)) ∧ ((μ 34 0 8 = 0) → c_v G d YX12_ahead [vR 34 0] μ (fun μ2 => ((¬ (μ2 34 0 8) = 0) → K 0 μ2) ∧ ((μ2 34 0 8 = 0) → K 1 μ2)))) ∧ ((¬ a1 = 0) → c_v G d YX12_blame [vR 34 0, vI 6, vI (μ 34 0 4)] μ (fun μ3 => ((¬ (μ3 34 0 8) = 0) → ((¬ (μ3 34 0 8) = 0) → K 0 μ3) ∧ ((μ3 34 0 8 = 0) → K 1 μ3)) ∧ ((μ3 34 0 8 = 0) → c_v G d YX12_ahead [vR 34 0] μ3 (fun μ4 => ((¬ (μ4 34 0 8) = 0) → K 0 μ4) ∧ ((μ4 34 0 8 = 0) → K 1 μ4))))))) :
    mW G X YX12_counts μ 0 [some (vR 34 0), some (vI a1)] [] := by
  refine m_aload_n C dX12_counts_0 rfl ?_
  refine f_getI C dX12_counts_1 fl_KilnBenchModel_36 rfl (by decide) (by decide) ?_
  refine m_if_ne (tgt := 21) C dX12_counts_4 (by decide) (fun c => ?_) (fun c => ?_)
  · have h := h.1 c
    refine m_aload_n C dX12_counts_21 rfl ?_
    refine f_getI C dX12_counts_22 fl_KilnBenchModel_36 rfl (by decide) (by decide) ?_
    refine m_if_ne (tgt := 32) C dX12_counts_25 (by decide) (fun c => ?_) (fun c => ?_)
    · have h := h.1 c
      refine m_aload_n C dX12_counts_32 rfl ?_
      refine f_getI C dX12_counts_33 fl_KilnBenchModel_36 rfl (by decide) (by decide) ?_
      refine m_if_ne (tgt := 43) C dX12_counts_36 (by decide) (fun c => ?_) (fun c => ?_)
      · have h := h.1 c
        refine m_iconst C dX12_counts_43 (by unfold in32; omega) ?_
        exact f_zret C R rfl dX12_counts_44 (by decide) h
      · have h := h.2 c
        refine m_iconst C dX12_counts_39 (by unfold in32; omega) ?_
        refine m_goto (tgt := 44) C dX12_counts_40 (by decide) ?_
        exact f_zret C R rfl dX12_counts_44 (by decide) h
    · have h := h.2 c
      refine m_aload_n C dX12_counts_28 rfl ?_
      refine f_callVv (As := []) (st := []) C dX12_counts_29 ml_KilnBenchModel_241 rfl (by decide) rfl rfl rfl (Nat.le_of_ble_eq_true rfl) h (fun μ1 h => ?_)
      refine m_aload_n C dX12_counts_32 rfl ?_
      refine f_getI C dX12_counts_33 fl_KilnBenchModel_36 rfl (by decide) (by decide) ?_
      refine m_if_ne (tgt := 43) C dX12_counts_36 (by decide) (fun c => ?_) (fun c => ?_)
      · have h := h.1 c
        refine m_iconst C dX12_counts_43 (by unfold in32; omega) ?_
        exact f_zret C R rfl dX12_counts_44 (by decide) h
      · have h := h.2 c
        refine m_iconst C dX12_counts_39 (by unfold in32; omega) ?_
        refine m_goto (tgt := 44) C dX12_counts_40 (by decide) ?_
        exact f_zret C R rfl dX12_counts_44 (by decide) h
  · have h := h.2 c
    refine m_iload_n C dX12_counts_7 rfl ?_
    refine m_if_eq (tgt := 21) C dX12_counts_8 (by decide) (fun c => ?_) (fun c => ?_)
    · have h := h.1 c
      refine m_aload_n C dX12_counts_21 rfl ?_
      refine f_getI C dX12_counts_22 fl_KilnBenchModel_36 rfl (by decide) (by decide) ?_
      refine m_if_ne (tgt := 32) C dX12_counts_25 (by decide) (fun c => ?_) (fun c => ?_)
      · have h := h.1 c
        refine m_aload_n C dX12_counts_32 rfl ?_
        refine f_getI C dX12_counts_33 fl_KilnBenchModel_36 rfl (by decide) (by decide) ?_
        refine m_if_ne (tgt := 43) C dX12_counts_36 (by decide) (fun c => ?_) (fun c => ?_)
        · have h := h.1 c
          refine m_iconst C dX12_counts_43 (by unfold in32; omega) ?_
          exact f_zret C R rfl dX12_counts_44 (by decide) h
        · have h := h.2 c
          refine m_iconst C dX12_counts_39 (by unfold in32; omega) ?_
          refine m_goto (tgt := 44) C dX12_counts_40 (by decide) ?_
          exact f_zret C R rfl dX12_counts_44 (by decide) h
      · have h := h.2 c
        refine m_aload_n C dX12_counts_28 rfl ?_
        refine f_callVv (As := []) (st := []) C dX12_counts_29 ml_KilnBenchModel_241 rfl (by decide) rfl rfl rfl (Nat.le_of_ble_eq_true rfl) h (fun μ2 h => ?_)
        refine m_aload_n C dX12_counts_32 rfl ?_
        refine f_getI C dX12_counts_33 fl_KilnBenchModel_36 rfl (by decide) (by decide) ?_
        refine m_if_ne (tgt := 43) C dX12_counts_36 (by decide) (fun c => ?_) (fun c => ?_)
        · have h := h.1 c
          refine m_iconst C dX12_counts_43 (by unfold in32; omega) ?_
          exact f_zret C R rfl dX12_counts_44 (by decide) h
        · have h := h.2 c
          refine m_iconst C dX12_counts_39 (by unfold in32; omega) ?_
          refine m_goto (tgt := 44) C dX12_counts_40 (by decide) ?_
          exact f_zret C R rfl dX12_counts_44 (by decide) h
    · have h := h.2 c
      refine m_aload_n C dX12_counts_11 rfl ?_
      refine m_bipush C dX12_counts_12 (by omega) ?_
      refine m_aload_n C dX12_counts_14 rfl ?_
      refine f_getI C dX12_counts_15 fl_KilnBenchModel_23 rfl (by decide) (by decide) ?_
      refine f_callVv (As := [vI 6, vI (μ 34 0 4)]) (st := []) C dX12_counts_18 ml_KilnBenchModel_224 rfl (by decide) rfl rfl rfl (Nat.le_of_ble_eq_true rfl) h (fun μ3 h => ?_)
      refine m_aload_n C dX12_counts_21 rfl ?_
      refine f_getI C dX12_counts_22 fl_KilnBenchModel_36 rfl (by decide) (by decide) ?_
      refine m_if_ne (tgt := 32) C dX12_counts_25 (by decide) (fun c => ?_) (fun c => ?_)
      · have h := h.1 c
        refine m_aload_n C dX12_counts_32 rfl ?_
        refine f_getI C dX12_counts_33 fl_KilnBenchModel_36 rfl (by decide) (by decide) ?_
        refine m_if_ne (tgt := 43) C dX12_counts_36 (by decide) (fun c => ?_) (fun c => ?_)
        · have h := h.1 c
          refine m_iconst C dX12_counts_43 (by unfold in32; omega) ?_
          exact f_zret C R rfl dX12_counts_44 (by decide) h
        · have h := h.2 c
          refine m_iconst C dX12_counts_39 (by unfold in32; omega) ?_
          refine m_goto (tgt := 44) C dX12_counts_40 (by decide) ?_
          exact f_zret C R rfl dX12_counts_44 (by decide) h
      · have h := h.2 c
        refine m_aload_n C dX12_counts_28 rfl ?_
        refine f_callVv (As := []) (st := []) C dX12_counts_29 ml_KilnBenchModel_241 rfl (by decide) rfl rfl rfl (Nat.le_of_ble_eq_true rfl) h (fun μ4 h => ?_)
        refine m_aload_n C dX12_counts_32 rfl ?_
        refine f_getI C dX12_counts_33 fl_KilnBenchModel_36 rfl (by decide) (by decide) ?_
        refine m_if_ne (tgt := 43) C dX12_counts_36 (by decide) (fun c => ?_) (fun c => ?_)
        · have h := h.1 c
          refine m_iconst C dX12_counts_43 (by unfold in32; omega) ?_
          exact f_zret C R rfl dX12_counts_44 (by decide) h
        · have h := h.2 c
          refine m_iconst C dX12_counts_39 (by unfold in32; omega) ?_
          refine m_goto (tgt := 44) C dX12_counts_40 (by decide) ?_
          exact f_zret C R rfl dX12_counts_44 (by decide) h

set_option maxRecDepth 20000 in
theorem VX12_must__0 {G : m_G} {X : m_X} {d : Nat} {K : m_M → Prop} (C : mC G X YX12_must_ (d + 1)) (R : r_v G X K) {μ : m_M} {a1 : Int}
    (h : c_v G d YX12_lex [vR 34 0] μ (fun μ1 => ((μ1 34 0 8 ≤ 0) → c_i G d YX12_isWord [vR 34 0, vJ a1] μ1 (fun r3 μ2 => ((¬ r3 = 0) → ((¬ (μ2 34 0 8) = 0) → K μ2) ∧ ((μ2 34 0 8 = 0) → c_v G d YX12_ahead [vR 34 0] μ2 (fun μ4 => K μ4))) ∧ ((r3 = 0) → c_v G d YX12_blame [vR 34 0, vI 1, vI (μ2 34 0 4)] μ2 (fun μ5 => ((¬ (μ5 34 0 8) = 0) → K μ5) ∧ ((μ5 34 0 8 = 0) → c_v G d YX12_ahead [vR 34 0] μ5 (fun μ6 => K μ6)))))) ∧ ((¬ μ1 34 0 8 ≤ 0) → K μ1))) :
    mW G X YX12_must_ μ 0 [some (vR 34 0), some (vJ a1), none] [] := by
  refine m_aload_n C dX12_must__0 rfl ?_
  refine f_callVv (As := []) (st := []) C dX12_must__1 ml_KilnBenchModel_235 rfl (by decide) rfl rfl rfl (Nat.le_of_ble_eq_true rfl) h (fun μ1 h => ?_)
  refine m_aload_n C dX12_must__4 rfl ?_
  refine f_getI C dX12_must__5 fl_KilnBenchModel_36 rfl (by decide) (by decide) ?_
  refine m_if_le (tgt := 12) C dX12_must__8 (by decide) (fun c => ?_) (fun c => ?_)
  · have h := h.1 c
    refine m_aload_n C dX12_must__12 rfl ?_
    refine m_lload_n C dX12_must__13 rfl ?_
    refine f_callVi (As := [vJ a1]) (st := []) C dX12_must__14 ml_KilnBenchModel_312 rfl (by decide) rfl rfl rfl (Nat.le_of_ble_eq_true rfl) h (fun r3 μ2 h => ?_)
    refine m_if_ne (tgt := 29) C dX12_must__17 (by decide) (fun c => ?_) (fun c => ?_)
    · have h := h.1 c
      refine m_aload_n C dX12_must__29 rfl ?_
      refine f_getI C dX12_must__30 fl_KilnBenchModel_36 rfl (by decide) (by decide) ?_
      refine m_if_ne (tgt := 40) C dX12_must__33 (by decide) (fun c => ?_) (fun c => ?_)
      · have h := h.1 c
        exact f_vret C R rfl dX12_must__40 h
      · have h := h.2 c
        refine m_aload_n C dX12_must__36 rfl ?_
        refine f_callVv (As := []) (st := []) C dX12_must__37 ml_KilnBenchModel_241 rfl (by decide) rfl rfl rfl (Nat.le_of_ble_eq_true rfl) h (fun μ4 h => ?_)
        exact f_vret C R rfl dX12_must__40 h
    · have h := h.2 c
      refine m_aload_n C dX12_must__20 rfl ?_
      refine m_iconst C dX12_must__21 (by unfold in32; omega) ?_
      refine m_aload_n C dX12_must__22 rfl ?_
      refine f_getI C dX12_must__23 fl_KilnBenchModel_23 rfl (by decide) (by decide) ?_
      refine f_callVv (As := [vI 1, vI (μ2 34 0 4)]) (st := []) C dX12_must__26 ml_KilnBenchModel_224 rfl (by decide) rfl rfl rfl (Nat.le_of_ble_eq_true rfl) h (fun μ5 h => ?_)
      refine m_aload_n C dX12_must__29 rfl ?_
      refine f_getI C dX12_must__30 fl_KilnBenchModel_36 rfl (by decide) (by decide) ?_
      refine m_if_ne (tgt := 40) C dX12_must__33 (by decide) (fun c => ?_) (fun c => ?_)
      · have h := h.1 c
        exact f_vret C R rfl dX12_must__40 h
      · have h := h.2 c
        refine m_aload_n C dX12_must__36 rfl ?_
        refine f_callVv (As := []) (st := []) C dX12_must__37 ml_KilnBenchModel_241 rfl (by decide) rfl rfl rfl (Nat.le_of_ble_eq_true rfl) h (fun μ6 h => ?_)
        exact f_vret C R rfl dX12_must__40 h
  · have h := h.2 c
    exact f_vret C R rfl dX12_must__11 h

set_option maxRecDepth 20000 in
theorem VX12_has2_0 {G : m_G} {X : m_X} {d : Nat} {K : Int → m_M → Prop} (C : mC G X YX12_has2 (d + 1)) (R : r_i G X K) {μ : m_M} {a1 : Int} {a2 : Int}
    (h : ((¬ (i_and (i_shr a1 a2) 1) = 1) → K 0 μ) ∧ ((i_and (i_shr a1 a2) 1 = 1) → K 1 μ)) :
    mW G X YX12_has2 μ 0 [some (vI a1), some (vI a2)] [] := by
  refine m_iload_n C dX12_has2_0 rfl ?_
  refine m_iload_n C dX12_has2_1 rfl ?_
  refine m_ishr C dX12_has2_2 ?_
  refine m_iconst C dX12_has2_3 (by unfold in32; omega) ?_
  refine m_iand C dX12_has2_4 ?_
  refine m_iconst C dX12_has2_5 (by unfold in32; omega) ?_
  refine m_icmp_ne (tgt := 13) C dX12_has2_6 (by decide) (fun c => ?_) (fun c => ?_)
  · have h := h.1 c
    refine m_iconst C dX12_has2_13 (by unfold in32; omega) ?_
    exact f_zret C R rfl dX12_has2_14 (by decide) h
  · have h := h.2 c
    refine m_iconst C dX12_has2_9 (by unfold in32; omega) ?_
    refine m_goto (tgt := 14) C dX12_has2_10 (by decide) ?_
    exact f_zret C R rfl dX12_has2_14 (by decide) h

set_option maxRecDepth 20000 in
theorem VX12_fresh_0 {G : m_G} {X : m_X} {d : Nat} {K : Int → m_M → Prop} (C : mC G X YX12_fresh (d + 1)) (R : r_l G X K) {μ : m_M}
    (h : c_v G d YX12_lex [vR 34 0] μ (fun μ1 => ((μ1 34 0 8 ≤ 0) → ((¬ (μ1 34 0 3) = 1) → mW G X YX12_fresh μ1 32 [some (vR 34 0), none, none] []) ∧ ((μ1 34 0 3 = 1) → c_i G d YX12_isOwn [vR 34 0, vJ (μ1 34 0 7)] μ1 (fun r3 μ2 => ((r3 = 0) → mW G X YX12_fresh μ2 41 [some (vR 34 0), none, none] []) ∧ ((¬ r3 = 0) → mW G X YX12_fresh μ2 32 [some (vR 34 0), none, none] [])))) ∧ ((¬ μ1 34 0 8 ≤ 0) → K 0 μ1))) :
    mW G X YX12_fresh μ 0 [some (vR 34 0), none, none] [] := by
  refine m_aload_n C dX12_fresh_0 rfl ?_
  refine f_callVv (As := []) (st := []) C dX12_fresh_1 ml_KilnBenchModel_235 rfl (by decide) rfl rfl rfl (Nat.le_of_ble_eq_true rfl) h (fun μ1 h => ?_)
  refine m_aload_n C dX12_fresh_4 rfl ?_
  refine f_getI C dX12_fresh_5 fl_KilnBenchModel_36 rfl (by decide) (by decide) ?_
  refine m_if_le (tgt := 13) C dX12_fresh_8 (by decide) (fun c => ?_) (fun c => ?_)
  · have h := h.1 c
    refine m_aload_n C dX12_fresh_13 rfl ?_
    refine f_getI C dX12_fresh_14 fl_KilnBenchModel_20 rfl (by decide) (by decide) ?_
    refine m_iconst C dX12_fresh_17 (by unfold in32; omega) ?_
    refine m_icmp_ne (tgt := 32) C dX12_fresh_18 (by decide) (fun c => ?_) (fun c => ?_)
    · have h := h.1 c
      exact h
    · have h := h.2 c
      refine m_aload_n C dX12_fresh_21 rfl ?_
      refine m_aload_n C dX12_fresh_22 rfl ?_
      refine f_getJ C dX12_fresh_23 fl_KilnBenchModel_32 rfl (by decide) (by decide) ?_
      refine f_callVi (As := [vJ (μ1 34 0 7)]) (st := []) C dX12_fresh_26 ml_KilnBenchModel_334 rfl (by decide) rfl rfl rfl (Nat.le_of_ble_eq_true rfl) h (fun r3 μ2 h => ?_)
      refine m_if_eq (tgt := 41) C dX12_fresh_29 (by decide) (fun c => ?_) (fun c => ?_)
      · have h := h.1 c
        exact h
      · have h := h.2 c
        exact h
  · have h := h.2 c
    refine m_lconst (x := 0) C dX12_fresh_11 rfl ?_
    exact f_lret C R rfl dX12_fresh_12 h

set_option maxRecDepth 20000 in
theorem VX12_fresh_32 {G : m_G} {X : m_X} {d : Nat} {K : Int → m_M → Prop} (C : mC G X YX12_fresh (d + 1)) (R : r_l G X K) {μ : m_M}
    (h : c_v G d YX12_blame [vR 34 0, vI 1, vI (μ 34 0 4)] μ (fun μ1 => mW G X YX12_fresh μ1 41 [some (vR 34 0), none, none] [])) :
    mW G X YX12_fresh μ 32 [some (vR 34 0), none, none] [] := by
  refine m_aload_n C dX12_fresh_32 rfl ?_
  refine m_iconst C dX12_fresh_33 (by unfold in32; omega) ?_
  refine m_aload_n C dX12_fresh_34 rfl ?_
  refine f_getI C dX12_fresh_35 fl_KilnBenchModel_23 rfl (by decide) (by decide) ?_
  refine f_callVv (As := [vI 1, vI (μ 34 0 4)]) (st := []) C dX12_fresh_38 ml_KilnBenchModel_224 rfl (by decide) rfl rfl rfl (Nat.le_of_ble_eq_true rfl) h (fun μ1 h => ?_)
  exact h

set_option maxRecDepth 20000 in
theorem VX12_fresh_41 {G : m_G} {X : m_X} {d : Nat} {K : Int → m_M → Prop} (C : mC G X YX12_fresh (d + 1)) (R : r_l G X K) {μ : m_M}
    (h : ((¬ (μ 34 0 8) = 0) → ∀ x1 : Int, x1 = μ 34 0 7 → ((¬ (μ 34 0 8) = 0) → K x1 μ) ∧ ((μ 34 0 8 = 0) → c_v G d YX12_ahead [vR 34 0] μ (fun μ2 => K x1 μ2))) ∧ ((μ 34 0 8 = 0) → c_i G d YX12_isNamed [vR 34 0, vJ (μ 34 0 7)] μ (fun r4 μ3 => ((r4 = 0) → ∀ x5 : Int, x5 = μ3 34 0 7 → ((¬ (μ3 34 0 8) = 0) → K x5 μ3) ∧ ((μ3 34 0 8 = 0) → c_v G d YX12_ahead [vR 34 0] μ3 (fun μ6 => K x5 μ6))) ∧ ((¬ r4 = 0) → c_v G d YX12_blame [vR 34 0, vI 2, vI (μ3 34 0 4)] μ3 (fun μ7 => ∀ x8 : Int, x8 = μ7 34 0 7 → ((¬ (μ7 34 0 8) = 0) → K x8 μ7) ∧ ((μ7 34 0 8 = 0) → c_v G d YX12_ahead [vR 34 0] μ7 (fun μ9 => K x8 μ9))))))) :
    mW G X YX12_fresh μ 41 [some (vR 34 0), none, none] [] := by
  refine m_aload_n C dX12_fresh_41 rfl ?_
  refine f_getI C dX12_fresh_42 fl_KilnBenchModel_36 rfl (by decide) (by decide) ?_
  refine m_if_ne (tgt := 68) C dX12_fresh_45 (by decide) (fun c => ?_) (fun c => ?_)
  · have h := h.1 c
    refine m_aload_n C dX12_fresh_68 rfl ?_
    refine f_getJ C dX12_fresh_69 fl_KilnBenchModel_32 rfl (by decide) (by decide) ?_
    refine n_lstore_n (fun x1 => [some (vR 34 0), some (vJ x1), none]) C dX12_fresh_72 (by decide) (fun _ => rfl) (fun x1 ex1 => ?_)
    have h := h x1 ex1
    refine m_aload_n C dX12_fresh_73 rfl ?_
    refine f_getI C dX12_fresh_74 fl_KilnBenchModel_36 rfl (by decide) (by decide) ?_
    refine m_if_ne (tgt := 84) C dX12_fresh_77 (by decide) (fun c => ?_) (fun c => ?_)
    · have h := h.1 c
      refine m_lload_n C dX12_fresh_84 rfl ?_
      exact f_lret C R rfl dX12_fresh_85 h
    · have h := h.2 c
      refine m_aload_n C dX12_fresh_80 rfl ?_
      refine f_callVv (As := []) (st := []) C dX12_fresh_81 ml_KilnBenchModel_241 rfl (by decide) rfl rfl rfl (Nat.le_of_ble_eq_true rfl) h (fun μ2 h => ?_)
      refine m_lload_n C dX12_fresh_84 rfl ?_
      exact f_lret C R rfl dX12_fresh_85 h
  · have h := h.2 c
    refine m_aload_n C dX12_fresh_48 rfl ?_
    refine m_aload_n C dX12_fresh_49 rfl ?_
    refine f_getJ C dX12_fresh_50 fl_KilnBenchModel_32 rfl (by decide) (by decide) ?_
    refine f_callVi (As := [vJ (μ 34 0 7)]) (st := []) C dX12_fresh_53 ml_KilnBenchModel_337 rfl (by decide) rfl rfl rfl (Nat.le_of_ble_eq_true rfl) h (fun r4 μ3 h => ?_)
    refine m_if_eq (tgt := 68) C dX12_fresh_56 (by decide) (fun c => ?_) (fun c => ?_)
    · have h := h.1 c
      refine m_aload_n C dX12_fresh_68 rfl ?_
      refine f_getJ C dX12_fresh_69 fl_KilnBenchModel_32 rfl (by decide) (by decide) ?_
      refine n_lstore_n (fun x5 => [some (vR 34 0), some (vJ x5), none]) C dX12_fresh_72 (by decide) (fun _ => rfl) (fun x5 ex5 => ?_)
      have h := h x5 ex5
      refine m_aload_n C dX12_fresh_73 rfl ?_
      refine f_getI C dX12_fresh_74 fl_KilnBenchModel_36 rfl (by decide) (by decide) ?_
      refine m_if_ne (tgt := 84) C dX12_fresh_77 (by decide) (fun c => ?_) (fun c => ?_)
      · have h := h.1 c
        refine m_lload_n C dX12_fresh_84 rfl ?_
        exact f_lret C R rfl dX12_fresh_85 h
      · have h := h.2 c
        refine m_aload_n C dX12_fresh_80 rfl ?_
        refine f_callVv (As := []) (st := []) C dX12_fresh_81 ml_KilnBenchModel_241 rfl (by decide) rfl rfl rfl (Nat.le_of_ble_eq_true rfl) h (fun μ6 h => ?_)
        refine m_lload_n C dX12_fresh_84 rfl ?_
        exact f_lret C R rfl dX12_fresh_85 h
    · have h := h.2 c
      refine m_aload_n C dX12_fresh_59 rfl ?_
      refine m_iconst C dX12_fresh_60 (by unfold in32; omega) ?_
      refine m_aload_n C dX12_fresh_61 rfl ?_
      refine f_getI C dX12_fresh_62 fl_KilnBenchModel_23 rfl (by decide) (by decide) ?_
      refine f_callVv (As := [vI 2, vI (μ3 34 0 4)]) (st := []) C dX12_fresh_65 ml_KilnBenchModel_224 rfl (by decide) rfl rfl rfl (Nat.le_of_ble_eq_true rfl) h (fun μ7 h => ?_)
      refine m_aload_n C dX12_fresh_68 rfl ?_
      refine f_getJ C dX12_fresh_69 fl_KilnBenchModel_32 rfl (by decide) (by decide) ?_
      refine n_lstore_n (fun x8 => [some (vR 34 0), some (vJ x8), none]) C dX12_fresh_72 (by decide) (fun _ => rfl) (fun x8 ex8 => ?_)
      have h := h x8 ex8
      refine m_aload_n C dX12_fresh_73 rfl ?_
      refine f_getI C dX12_fresh_74 fl_KilnBenchModel_36 rfl (by decide) (by decide) ?_
      refine m_if_ne (tgt := 84) C dX12_fresh_77 (by decide) (fun c => ?_) (fun c => ?_)
      · have h := h.1 c
        refine m_lload_n C dX12_fresh_84 rfl ?_
        exact f_lret C R rfl dX12_fresh_85 h
      · have h := h.2 c
        refine m_aload_n C dX12_fresh_80 rfl ?_
        refine f_callVv (As := []) (st := []) C dX12_fresh_81 ml_KilnBenchModel_241 rfl (by decide) rfl rfl rfl (Nat.le_of_ble_eq_true rfl) h (fun μ9 h => ?_)
        refine m_lload_n C dX12_fresh_84 rfl ?_
        exact f_lret C R rfl dX12_fresh_85 h

set_option maxRecDepth 20000 in
theorem VX12_childing_0 {G : m_G} {X : m_X} {d : Nat} {K : m_M → Prop} (C : mC G X YX12_childing (d + 1)) (R : r_v G X K) {μ : m_M}
    (h : (0 ≤ μ 34 0 29 ∧ μ 34 0 29 < 2) ∧ ((¬ (μ 34 15 (μ 34 0 29).toNat) = 8) → c_i G d YX12_counts [vR 34 0, vI 0] μ (fun r2 μ1 => ((¬ r2 = 0) → (0 ≤ μ1 34 0 29 ∧ μ1 34 0 29 < 2) ∧ ∀ x3 : Int, x3 = w32 ((w32 (8 * (μ1 34 0 29))) + (μ1 34 15 (μ1 34 0 29).toNat)) → c_l G d YX12_fresh [vR 34 0] μ1 (fun r5 μ4 => (0 ≤ x3 ∧ x3 < 16) ∧ ∀ μ6 : m_M, μ6 = m_up μ4 34 27 x3.toNat r5 → c_v G d YX12_must_ [vR 34 0, vJ 1668047225] μ6 (fun μ7 => c_i G d YX12_number [vR 34 0, vI 0, vI 99] μ7 (fun r9 μ8 => (0 ≤ x3 ∧ x3 < 16) ∧ ∀ μ10 : m_M, μ10 = m_up μ8 34 16 x3.toNat r9 → c_v G d YX12_must_ [vR 34 0, vJ 1735551348] μ10 (fun μ11 => c_i G d YX12_number [vR 34 0, vI 0, vI 9] μ11 (fun r13 μ12 => (0 ≤ x3 ∧ x3 < 16) ∧ ∀ μ14 : m_M, μ14 = m_up μ12 34 17 x3.toNat r13 → ((¬ (μ14 34 0 8) = 0) → K μ14) ∧ ((μ14 34 0 8 = 0) → (0 ≤ μ14 34 0 29 ∧ μ14 34 0 29 < 2) ∧ (0 ≤ μ14 34 0 29 ∧ μ14 34 0 29 < 2) ∧ ∀ μ15 : m_M, μ15 = m_up μ14 34 15 (μ14 34 0 29).toNat (w32 ((μ14 34 15 (μ14 34 0 29).toNat) + 1)) → K μ15))))))) ∧ ((r2 = 0) → K μ1))) ∧ ((μ 34 15 (μ 34 0 29).toNat = 8) → c_i G d YX12_counts [vR 34 0, vI 1] μ (fun r17 μ16 => ((¬ r17 = 0) → (0 ≤ μ16 34 0 29 ∧ μ16 34 0 29 < 2) ∧ ∀ x18 : Int, x18 = w32 ((w32 (8 * (μ16 34 0 29))) + (μ16 34 15 (μ16 34 0 29).toNat)) → c_l G d YX12_fresh [vR 34 0] μ16 (fun r20 μ19 => (0 ≤ x18 ∧ x18 < 16) ∧ ∀ μ21 : m_M, μ21 = m_up μ19 34 27 x18.toNat r20 → c_v G d YX12_must_ [vR 34 0, vJ 1668047225] μ21 (fun μ22 => c_i G d YX12_number [vR 34 0, vI 0, vI 99] μ22 (fun r24 μ23 => (0 ≤ x18 ∧ x18 < 16) ∧ ∀ μ25 : m_M, μ25 = m_up μ23 34 16 x18.toNat r24 → c_v G d YX12_must_ [vR 34 0, vJ 1735551348] μ25 (fun μ26 => c_i G d YX12_number [vR 34 0, vI 0, vI 9] μ26 (fun r28 μ27 => (0 ≤ x18 ∧ x18 < 16) ∧ ∀ μ29 : m_M, μ29 = m_up μ27 34 17 x18.toNat r28 → ((¬ (μ29 34 0 8) = 0) → K μ29) ∧ ((μ29 34 0 8 = 0) → (0 ≤ μ29 34 0 29 ∧ μ29 34 0 29 < 2) ∧ (0 ≤ μ29 34 0 29 ∧ μ29 34 0 29 < 2) ∧ ∀ μ30 : m_M, μ30 = m_up μ29 34 15 (μ29 34 0 29).toNat (w32 ((μ29 34 15 (μ29 34 0 29).toNat) + 1)) → K μ30))))))) ∧ ((r17 = 0) → K μ16)))) :
    mW G X YX12_childing μ 0 [some (vR 34 0), none] [] := by
  refine m_aload_n C dX12_childing_0 rfl ?_
  refine m_aload_n C dX12_childing_1 rfl ?_
  refine f_getA C dX12_childing_2 fl_KilnBenchModel_54 rfl (by decide) (by decide) (by decide) (by decide) ?_
  refine m_aload_n C dX12_childing_5 rfl ?_
  refine f_getI C dX12_childing_6 fl_KilnBenchModel_100 rfl (by decide) (by decide) ?_
  obtain ⟨hb, h⟩ := h
  refine f_iald C dX12_childing_9 (m_arO (a := 0) (len := 2) rfl rfl) (by decide) hb ?_
  refine m_bipush C dX12_childing_10 (by omega) ?_
  refine m_icmp_ne (tgt := 19) C dX12_childing_12 (by decide) (fun c => ?_) (fun c => ?_)
  · have h := h.1 c
    refine m_iconst C dX12_childing_19 (by unfold in32; omega) ?_
    refine f_callVi (As := [vI 0]) (st := []) C dX12_childing_20 ml_KilnBenchModel_340 rfl (by decide) rfl rfl rfl (Nat.le_of_ble_eq_true rfl) h (fun r2 μ1 h => ?_)
    refine m_if_ne (tgt := 27) C dX12_childing_23 (by decide) (fun c => ?_) (fun c => ?_)
    · have h := h.1 c
      refine m_bipush C dX12_childing_27 (by omega) ?_
      refine m_aload_n C dX12_childing_29 rfl ?_
      refine f_getI C dX12_childing_30 fl_KilnBenchModel_100 rfl (by decide) (by decide) ?_
      refine m_imul C dX12_childing_33 ?_
      refine m_aload_n C dX12_childing_34 rfl ?_
      refine f_getA C dX12_childing_35 fl_KilnBenchModel_54 rfl (by decide) (by decide) (by decide) (by decide) ?_
      refine m_aload_n C dX12_childing_38 rfl ?_
      refine f_getI C dX12_childing_39 fl_KilnBenchModel_100 rfl (by decide) (by decide) ?_
      obtain ⟨hb, h⟩ := h
      refine f_iald C dX12_childing_42 (m_arO (a := 0) (len := 2) rfl rfl) (by decide) hb ?_
      refine m_iadd C dX12_childing_43 ?_
      refine n_istore_n (fun x3 => [some (vR 34 0), some (vI x3)]) C dX12_childing_44 (by decide) (fun _ => rfl) (fun x3 ex3 => ?_)
      have h := h x3 ex3
      refine m_aload_n C dX12_childing_45 rfl ?_
      refine f_getA C dX12_childing_46 fl_KilnBenchModel_90 rfl (by decide) (by decide) (by decide) (by decide) ?_
      refine m_iload_n C dX12_childing_49 rfl ?_
      refine m_aload_n C dX12_childing_50 rfl ?_
      refine f_callVl (As := []) (st := [vI x3, vR 34 27]) C dX12_childing_51 ml_KilnBenchModel_344 rfl (by decide) rfl rfl rfl (Nat.le_of_ble_eq_true rfl) h (fun r5 μ4 h => ?_)
      obtain ⟨hb, h⟩ := h
      refine f_last C dX12_childing_54 (m_arO (a := 3) (len := 16) rfl rfl) (by decide) hb ?_
      refine n_mem (fun μ6 eμ6 => ?_)
      have h := h μ6 eμ6
      refine m_aload_n C dX12_childing_55 rfl ?_
      refine m_ldc2 (x := 1668047225) C dX12_childing_56 lc_KilnBenchModel_246 rfl ?_
      refine f_callVv (As := [vJ 1668047225]) (st := []) C dX12_childing_59 ml_KilnBenchModel_348 rfl (by decide) rfl rfl rfl (Nat.le_of_ble_eq_true rfl) h (fun μ7 h => ?_)
      refine m_aload_n C dX12_childing_62 rfl ?_
      refine f_getA C dX12_childing_63 fl_KilnBenchModel_57 rfl (by decide) (by decide) (by decide) (by decide) ?_
      refine m_iload_n C dX12_childing_66 rfl ?_
      refine m_aload_n C dX12_childing_67 rfl ?_
      refine m_iconst C dX12_childing_68 (by unfold in32; omega) ?_
      refine m_bipush C dX12_childing_69 (by omega) ?_
      refine f_callVi (As := [vI 0, vI 99]) (st := [vI x3, vR 34 16]) C dX12_childing_71 ml_KilnBenchModel_352 rfl (by decide) rfl rfl rfl (Nat.le_of_ble_eq_true rfl) h (fun r9 μ8 h => ?_)
      obtain ⟨hb, h⟩ := h
      refine f_iast C dX12_childing_74 (m_arO (a := 0) (len := 16) rfl rfl) (by decide) hb ?_
      refine n_mem (fun μ10 eμ10 => ?_)
      have h := h μ10 eμ10
      refine m_aload_n C dX12_childing_75 rfl ?_
      refine m_ldc2 (x := 1735551348) C dX12_childing_76 lc_KilnBenchModel_248 rfl ?_
      refine f_callVv (As := [vJ 1735551348]) (st := []) C dX12_childing_79 ml_KilnBenchModel_348 rfl (by decide) rfl rfl rfl (Nat.le_of_ble_eq_true rfl) h (fun μ11 h => ?_)
      refine m_aload_n C dX12_childing_82 rfl ?_
      refine f_getA C dX12_childing_83 fl_KilnBenchModel_60 rfl (by decide) (by decide) (by decide) (by decide) ?_
      refine m_iload_n C dX12_childing_86 rfl ?_
      refine m_aload_n C dX12_childing_87 rfl ?_
      refine m_iconst C dX12_childing_88 (by unfold in32; omega) ?_
      refine m_bipush C dX12_childing_89 (by omega) ?_
      refine f_callVi (As := [vI 0, vI 9]) (st := [vI x3, vR 34 17]) C dX12_childing_91 ml_KilnBenchModel_352 rfl (by decide) rfl rfl rfl (Nat.le_of_ble_eq_true rfl) h (fun r13 μ12 h => ?_)
      obtain ⟨hb, h⟩ := h
      refine f_iast C dX12_childing_94 (m_arO (a := 0) (len := 16) rfl rfl) (by decide) hb ?_
      refine n_mem (fun μ14 eμ14 => ?_)
      have h := h μ14 eμ14
      refine m_aload_n C dX12_childing_95 rfl ?_
      refine f_getI C dX12_childing_96 fl_KilnBenchModel_36 rfl (by decide) (by decide) ?_
      refine m_if_ne (tgt := 115) C dX12_childing_99 (by decide) (fun c => ?_) (fun c => ?_)
      · have h := h.1 c
        exact f_vret C R rfl dX12_childing_115 h
      · have h := h.2 c
        refine m_aload_n C dX12_childing_102 rfl ?_
        refine f_getA C dX12_childing_103 fl_KilnBenchModel_54 rfl (by decide) (by decide) (by decide) (by decide) ?_
        refine m_aload_n C dX12_childing_106 rfl ?_
        refine f_getI C dX12_childing_107 fl_KilnBenchModel_100 rfl (by decide) (by decide) ?_
        refine m_dup2 C dX12_childing_110 rfl rfl ?_
        obtain ⟨hb, h⟩ := h
        refine f_iald C dX12_childing_111 (m_arO (a := 0) (len := 2) rfl rfl) (by decide) hb ?_
        refine m_iconst C dX12_childing_112 (by unfold in32; omega) ?_
        refine m_iadd C dX12_childing_113 ?_
        obtain ⟨hb, h⟩ := h
        refine f_iast C dX12_childing_114 (m_arO (a := 0) (len := 2) rfl rfl) (by decide) hb ?_
        refine n_mem (fun μ15 eμ15 => ?_)
        have h := h μ15 eμ15
        exact f_vret C R rfl dX12_childing_115 h
    · have h := h.2 c
      exact f_vret C R rfl dX12_childing_26 h
  · have h := h.2 c
    refine m_iconst C dX12_childing_15 (by unfold in32; omega) ?_
    refine m_goto (tgt := 20) C dX12_childing_16 (by decide) ?_
    refine f_callVi (As := [vI 1]) (st := []) C dX12_childing_20 ml_KilnBenchModel_340 rfl (by decide) rfl rfl rfl (Nat.le_of_ble_eq_true rfl) h (fun r17 μ16 h => ?_)
    refine m_if_ne (tgt := 27) C dX12_childing_23 (by decide) (fun c => ?_) (fun c => ?_)
    · have h := h.1 c
      refine m_bipush C dX12_childing_27 (by omega) ?_
      refine m_aload_n C dX12_childing_29 rfl ?_
      refine f_getI C dX12_childing_30 fl_KilnBenchModel_100 rfl (by decide) (by decide) ?_
      refine m_imul C dX12_childing_33 ?_
      refine m_aload_n C dX12_childing_34 rfl ?_
      refine f_getA C dX12_childing_35 fl_KilnBenchModel_54 rfl (by decide) (by decide) (by decide) (by decide) ?_
      refine m_aload_n C dX12_childing_38 rfl ?_
      refine f_getI C dX12_childing_39 fl_KilnBenchModel_100 rfl (by decide) (by decide) ?_
      obtain ⟨hb, h⟩ := h
      refine f_iald C dX12_childing_42 (m_arO (a := 0) (len := 2) rfl rfl) (by decide) hb ?_
      refine m_iadd C dX12_childing_43 ?_
      refine n_istore_n (fun x18 => [some (vR 34 0), some (vI x18)]) C dX12_childing_44 (by decide) (fun _ => rfl) (fun x18 ex18 => ?_)
      have h := h x18 ex18
      refine m_aload_n C dX12_childing_45 rfl ?_
      refine f_getA C dX12_childing_46 fl_KilnBenchModel_90 rfl (by decide) (by decide) (by decide) (by decide) ?_
      refine m_iload_n C dX12_childing_49 rfl ?_
      refine m_aload_n C dX12_childing_50 rfl ?_
      refine f_callVl (As := []) (st := [vI x18, vR 34 27]) C dX12_childing_51 ml_KilnBenchModel_344 rfl (by decide) rfl rfl rfl (Nat.le_of_ble_eq_true rfl) h (fun r20 μ19 h => ?_)
      obtain ⟨hb, h⟩ := h
      refine f_last C dX12_childing_54 (m_arO (a := 3) (len := 16) rfl rfl) (by decide) hb ?_
      refine n_mem (fun μ21 eμ21 => ?_)
      have h := h μ21 eμ21
      refine m_aload_n C dX12_childing_55 rfl ?_
      refine m_ldc2 (x := 1668047225) C dX12_childing_56 lc_KilnBenchModel_246 rfl ?_
      refine f_callVv (As := [vJ 1668047225]) (st := []) C dX12_childing_59 ml_KilnBenchModel_348 rfl (by decide) rfl rfl rfl (Nat.le_of_ble_eq_true rfl) h (fun μ22 h => ?_)
      refine m_aload_n C dX12_childing_62 rfl ?_
      refine f_getA C dX12_childing_63 fl_KilnBenchModel_57 rfl (by decide) (by decide) (by decide) (by decide) ?_
      refine m_iload_n C dX12_childing_66 rfl ?_
      refine m_aload_n C dX12_childing_67 rfl ?_
      refine m_iconst C dX12_childing_68 (by unfold in32; omega) ?_
      refine m_bipush C dX12_childing_69 (by omega) ?_
      refine f_callVi (As := [vI 0, vI 99]) (st := [vI x18, vR 34 16]) C dX12_childing_71 ml_KilnBenchModel_352 rfl (by decide) rfl rfl rfl (Nat.le_of_ble_eq_true rfl) h (fun r24 μ23 h => ?_)
      obtain ⟨hb, h⟩ := h
      refine f_iast C dX12_childing_74 (m_arO (a := 0) (len := 16) rfl rfl) (by decide) hb ?_
      refine n_mem (fun μ25 eμ25 => ?_)
      have h := h μ25 eμ25
      refine m_aload_n C dX12_childing_75 rfl ?_
      refine m_ldc2 (x := 1735551348) C dX12_childing_76 lc_KilnBenchModel_248 rfl ?_
      refine f_callVv (As := [vJ 1735551348]) (st := []) C dX12_childing_79 ml_KilnBenchModel_348 rfl (by decide) rfl rfl rfl (Nat.le_of_ble_eq_true rfl) h (fun μ26 h => ?_)
      refine m_aload_n C dX12_childing_82 rfl ?_
      refine f_getA C dX12_childing_83 fl_KilnBenchModel_60 rfl (by decide) (by decide) (by decide) (by decide) ?_
      refine m_iload_n C dX12_childing_86 rfl ?_
      refine m_aload_n C dX12_childing_87 rfl ?_
      refine m_iconst C dX12_childing_88 (by unfold in32; omega) ?_
      refine m_bipush C dX12_childing_89 (by omega) ?_
      refine f_callVi (As := [vI 0, vI 9]) (st := [vI x18, vR 34 17]) C dX12_childing_91 ml_KilnBenchModel_352 rfl (by decide) rfl rfl rfl (Nat.le_of_ble_eq_true rfl) h (fun r28 μ27 h => ?_)
      obtain ⟨hb, h⟩ := h
      refine f_iast C dX12_childing_94 (m_arO (a := 0) (len := 16) rfl rfl) (by decide) hb ?_
      refine n_mem (fun μ29 eμ29 => ?_)
      have h := h μ29 eμ29
      refine m_aload_n C dX12_childing_95 rfl ?_
      refine f_getI C dX12_childing_96 fl_KilnBenchModel_36 rfl (by decide) (by decide) ?_
      refine m_if_ne (tgt := 115) C dX12_childing_99 (by decide) (fun c => ?_) (fun c => ?_)
      · have h := h.1 c
        exact f_vret C R rfl dX12_childing_115 h
      · have h := h.2 c
        refine m_aload_n C dX12_childing_102 rfl ?_
        refine f_getA C dX12_childing_103 fl_KilnBenchModel_54 rfl (by decide) (by decide) (by decide) (by decide) ?_
        refine m_aload_n C dX12_childing_106 rfl ?_
        refine f_getI C dX12_childing_107 fl_KilnBenchModel_100 rfl (by decide) (by decide) ?_
        refine m_dup2 C dX12_childing_110 rfl rfl ?_
        obtain ⟨hb, h⟩ := h
        refine f_iald C dX12_childing_111 (m_arO (a := 0) (len := 2) rfl rfl) (by decide) hb ?_
        refine m_iconst C dX12_childing_112 (by unfold in32; omega) ?_
        refine m_iadd C dX12_childing_113 ?_
        obtain ⟨hb, h⟩ := h
        refine f_iast C dX12_childing_114 (m_arO (a := 0) (len := 2) rfl rfl) (by decide) hb ?_
        refine n_mem (fun μ30 eμ30 => ?_)
        have h := h μ30 eμ30
        exact f_vret C R rfl dX12_childing_115 h
    · have h := h.2 c
      exact f_vret C R rfl dX12_childing_26 h

set_option maxRecDepth 20000 in
theorem VX12_kilning_0 {G : m_G} {X : m_X} {d : Nat} {K : m_M → Prop} (C : mC G X YX12_kilning (d + 1)) (R : r_v G X K) {μ : m_M}
    (h : (0 ≤ μ 34 0 29 ∧ μ 34 0 29 < 2) ∧ ((¬ (μ 34 18 (μ 34 0 29).toNat) = 3) → c_i G d YX12_counts [vR 34 0, vI 0] μ (fun r2 μ1 => ((¬ r2 = 0) → (0 ≤ μ1 34 0 29 ∧ μ1 34 0 29 < 2) ∧ ∀ x3 : Int, x3 = w32 ((w32 (3 * (μ1 34 0 29))) + (μ1 34 18 (μ1 34 0 29).toNat)) → c_l G d YX12_fresh [vR 34 0] μ1 (fun r5 μ4 => (0 ≤ x3 ∧ x3 < 6) ∧ ∀ μ6 : m_M, μ6 = m_up μ4 34 28 x3.toNat r5 → c_v G d YX12_must_ [vR 34 0, vJ 1919905645] μ6 (fun μ7 => c_i G d YX12_number [vR 34 0, vI 1, vI 6] μ7 (fun r9 μ8 => (0 ≤ x3 ∧ x3 < 6) ∧ ∀ μ10 : m_M, μ10 = m_up μ8 34 19 x3.toNat r9 → ((¬ (μ10 34 0 8) = 0) → K μ10) ∧ ((μ10 34 0 8 = 0) → (0 ≤ μ10 34 0 29 ∧ μ10 34 0 29 < 2) ∧ (0 ≤ μ10 34 0 29 ∧ μ10 34 0 29 < 2) ∧ ∀ μ11 : m_M, μ11 = m_up μ10 34 18 (μ10 34 0 29).toNat (w32 ((μ10 34 18 (μ10 34 0 29).toNat) + 1)) → K μ11))))) ∧ ((r2 = 0) → K μ1))) ∧ ((μ 34 18 (μ 34 0 29).toNat = 3) → c_i G d YX12_counts [vR 34 0, vI 1] μ (fun r13 μ12 => ((¬ r13 = 0) → (0 ≤ μ12 34 0 29 ∧ μ12 34 0 29 < 2) ∧ ∀ x14 : Int, x14 = w32 ((w32 (3 * (μ12 34 0 29))) + (μ12 34 18 (μ12 34 0 29).toNat)) → c_l G d YX12_fresh [vR 34 0] μ12 (fun r16 μ15 => (0 ≤ x14 ∧ x14 < 6) ∧ ∀ μ17 : m_M, μ17 = m_up μ15 34 28 x14.toNat r16 → c_v G d YX12_must_ [vR 34 0, vJ 1919905645] μ17 (fun μ18 => c_i G d YX12_number [vR 34 0, vI 1, vI 6] μ18 (fun r20 μ19 => (0 ≤ x14 ∧ x14 < 6) ∧ ∀ μ21 : m_M, μ21 = m_up μ19 34 19 x14.toNat r20 → ((¬ (μ21 34 0 8) = 0) → K μ21) ∧ ((μ21 34 0 8 = 0) → (0 ≤ μ21 34 0 29 ∧ μ21 34 0 29 < 2) ∧ (0 ≤ μ21 34 0 29 ∧ μ21 34 0 29 < 2) ∧ ∀ μ22 : m_M, μ22 = m_up μ21 34 18 (μ21 34 0 29).toNat (w32 ((μ21 34 18 (μ21 34 0 29).toNat) + 1)) → K μ22))))) ∧ ((r13 = 0) → K μ12)))) :
    mW G X YX12_kilning μ 0 [some (vR 34 0), none] [] := by
  refine m_aload_n C dX12_kilning_0 rfl ?_
  refine m_aload_n C dX12_kilning_1 rfl ?_
  refine f_getA C dX12_kilning_2 fl_KilnBenchModel_63 rfl (by decide) (by decide) (by decide) (by decide) ?_
  refine m_aload_n C dX12_kilning_5 rfl ?_
  refine f_getI C dX12_kilning_6 fl_KilnBenchModel_100 rfl (by decide) (by decide) ?_
  obtain ⟨hb, h⟩ := h
  refine f_iald C dX12_kilning_9 (m_arO (a := 0) (len := 2) rfl rfl) (by decide) hb ?_
  refine m_iconst C dX12_kilning_10 (by unfold in32; omega) ?_
  refine m_icmp_ne (tgt := 18) C dX12_kilning_11 (by decide) (fun c => ?_) (fun c => ?_)
  · have h := h.1 c
    refine m_iconst C dX12_kilning_18 (by unfold in32; omega) ?_
    refine f_callVi (As := [vI 0]) (st := []) C dX12_kilning_19 ml_KilnBenchModel_340 rfl (by decide) rfl rfl rfl (Nat.le_of_ble_eq_true rfl) h (fun r2 μ1 h => ?_)
    refine m_if_ne (tgt := 26) C dX12_kilning_22 (by decide) (fun c => ?_) (fun c => ?_)
    · have h := h.1 c
      refine m_iconst C dX12_kilning_26 (by unfold in32; omega) ?_
      refine m_aload_n C dX12_kilning_27 rfl ?_
      refine f_getI C dX12_kilning_28 fl_KilnBenchModel_100 rfl (by decide) (by decide) ?_
      refine m_imul C dX12_kilning_31 ?_
      refine m_aload_n C dX12_kilning_32 rfl ?_
      refine f_getA C dX12_kilning_33 fl_KilnBenchModel_63 rfl (by decide) (by decide) (by decide) (by decide) ?_
      refine m_aload_n C dX12_kilning_36 rfl ?_
      refine f_getI C dX12_kilning_37 fl_KilnBenchModel_100 rfl (by decide) (by decide) ?_
      obtain ⟨hb, h⟩ := h
      refine f_iald C dX12_kilning_40 (m_arO (a := 0) (len := 2) rfl rfl) (by decide) hb ?_
      refine m_iadd C dX12_kilning_41 ?_
      refine n_istore_n (fun x3 => [some (vR 34 0), some (vI x3)]) C dX12_kilning_42 (by decide) (fun _ => rfl) (fun x3 ex3 => ?_)
      have h := h x3 ex3
      refine m_aload_n C dX12_kilning_43 rfl ?_
      refine f_getA C dX12_kilning_44 fl_KilnBenchModel_94 rfl (by decide) (by decide) (by decide) (by decide) ?_
      refine m_iload_n C dX12_kilning_47 rfl ?_
      refine m_aload_n C dX12_kilning_48 rfl ?_
      refine f_callVl (As := []) (st := [vI x3, vR 34 28]) C dX12_kilning_49 ml_KilnBenchModel_344 rfl (by decide) rfl rfl rfl (Nat.le_of_ble_eq_true rfl) h (fun r5 μ4 h => ?_)
      obtain ⟨hb, h⟩ := h
      refine f_last C dX12_kilning_52 (m_arO (a := 3) (len := 6) rfl rfl) (by decide) hb ?_
      refine n_mem (fun μ6 eμ6 => ?_)
      have h := h μ6 eμ6
      refine m_aload_n C dX12_kilning_53 rfl ?_
      refine m_ldc2 (x := 1919905645) C dX12_kilning_54 lc_KilnBenchModel_252 rfl ?_
      refine f_callVv (As := [vJ 1919905645]) (st := []) C dX12_kilning_57 ml_KilnBenchModel_348 rfl (by decide) rfl rfl rfl (Nat.le_of_ble_eq_true rfl) h (fun μ7 h => ?_)
      refine m_aload_n C dX12_kilning_60 rfl ?_
      refine f_getA C dX12_kilning_61 fl_KilnBenchModel_66 rfl (by decide) (by decide) (by decide) (by decide) ?_
      refine m_iload_n C dX12_kilning_64 rfl ?_
      refine m_aload_n C dX12_kilning_65 rfl ?_
      refine m_iconst C dX12_kilning_66 (by unfold in32; omega) ?_
      refine m_bipush C dX12_kilning_67 (by omega) ?_
      refine f_callVi (As := [vI 1, vI 6]) (st := [vI x3, vR 34 19]) C dX12_kilning_69 ml_KilnBenchModel_352 rfl (by decide) rfl rfl rfl (Nat.le_of_ble_eq_true rfl) h (fun r9 μ8 h => ?_)
      obtain ⟨hb, h⟩ := h
      refine f_iast C dX12_kilning_72 (m_arO (a := 0) (len := 6) rfl rfl) (by decide) hb ?_
      refine n_mem (fun μ10 eμ10 => ?_)
      have h := h μ10 eμ10
      refine m_aload_n C dX12_kilning_73 rfl ?_
      refine f_getI C dX12_kilning_74 fl_KilnBenchModel_36 rfl (by decide) (by decide) ?_
      refine m_if_ne (tgt := 93) C dX12_kilning_77 (by decide) (fun c => ?_) (fun c => ?_)
      · have h := h.1 c
        exact f_vret C R rfl dX12_kilning_93 h
      · have h := h.2 c
        refine m_aload_n C dX12_kilning_80 rfl ?_
        refine f_getA C dX12_kilning_81 fl_KilnBenchModel_63 rfl (by decide) (by decide) (by decide) (by decide) ?_
        refine m_aload_n C dX12_kilning_84 rfl ?_
        refine f_getI C dX12_kilning_85 fl_KilnBenchModel_100 rfl (by decide) (by decide) ?_
        refine m_dup2 C dX12_kilning_88 rfl rfl ?_
        obtain ⟨hb, h⟩ := h
        refine f_iald C dX12_kilning_89 (m_arO (a := 0) (len := 2) rfl rfl) (by decide) hb ?_
        refine m_iconst C dX12_kilning_90 (by unfold in32; omega) ?_
        refine m_iadd C dX12_kilning_91 ?_
        obtain ⟨hb, h⟩ := h
        refine f_iast C dX12_kilning_92 (m_arO (a := 0) (len := 2) rfl rfl) (by decide) hb ?_
        refine n_mem (fun μ11 eμ11 => ?_)
        have h := h μ11 eμ11
        exact f_vret C R rfl dX12_kilning_93 h
    · have h := h.2 c
      exact f_vret C R rfl dX12_kilning_25 h
  · have h := h.2 c
    refine m_iconst C dX12_kilning_14 (by unfold in32; omega) ?_
    refine m_goto (tgt := 19) C dX12_kilning_15 (by decide) ?_
    refine f_callVi (As := [vI 1]) (st := []) C dX12_kilning_19 ml_KilnBenchModel_340 rfl (by decide) rfl rfl rfl (Nat.le_of_ble_eq_true rfl) h (fun r13 μ12 h => ?_)
    refine m_if_ne (tgt := 26) C dX12_kilning_22 (by decide) (fun c => ?_) (fun c => ?_)
    · have h := h.1 c
      refine m_iconst C dX12_kilning_26 (by unfold in32; omega) ?_
      refine m_aload_n C dX12_kilning_27 rfl ?_
      refine f_getI C dX12_kilning_28 fl_KilnBenchModel_100 rfl (by decide) (by decide) ?_
      refine m_imul C dX12_kilning_31 ?_
      refine m_aload_n C dX12_kilning_32 rfl ?_
      refine f_getA C dX12_kilning_33 fl_KilnBenchModel_63 rfl (by decide) (by decide) (by decide) (by decide) ?_
      refine m_aload_n C dX12_kilning_36 rfl ?_
      refine f_getI C dX12_kilning_37 fl_KilnBenchModel_100 rfl (by decide) (by decide) ?_
      obtain ⟨hb, h⟩ := h
      refine f_iald C dX12_kilning_40 (m_arO (a := 0) (len := 2) rfl rfl) (by decide) hb ?_
      refine m_iadd C dX12_kilning_41 ?_
      refine n_istore_n (fun x14 => [some (vR 34 0), some (vI x14)]) C dX12_kilning_42 (by decide) (fun _ => rfl) (fun x14 ex14 => ?_)
      have h := h x14 ex14
      refine m_aload_n C dX12_kilning_43 rfl ?_
      refine f_getA C dX12_kilning_44 fl_KilnBenchModel_94 rfl (by decide) (by decide) (by decide) (by decide) ?_
      refine m_iload_n C dX12_kilning_47 rfl ?_
      refine m_aload_n C dX12_kilning_48 rfl ?_
      refine f_callVl (As := []) (st := [vI x14, vR 34 28]) C dX12_kilning_49 ml_KilnBenchModel_344 rfl (by decide) rfl rfl rfl (Nat.le_of_ble_eq_true rfl) h (fun r16 μ15 h => ?_)
      obtain ⟨hb, h⟩ := h
      refine f_last C dX12_kilning_52 (m_arO (a := 3) (len := 6) rfl rfl) (by decide) hb ?_
      refine n_mem (fun μ17 eμ17 => ?_)
      have h := h μ17 eμ17
      refine m_aload_n C dX12_kilning_53 rfl ?_
      refine m_ldc2 (x := 1919905645) C dX12_kilning_54 lc_KilnBenchModel_252 rfl ?_
      refine f_callVv (As := [vJ 1919905645]) (st := []) C dX12_kilning_57 ml_KilnBenchModel_348 rfl (by decide) rfl rfl rfl (Nat.le_of_ble_eq_true rfl) h (fun μ18 h => ?_)
      refine m_aload_n C dX12_kilning_60 rfl ?_
      refine f_getA C dX12_kilning_61 fl_KilnBenchModel_66 rfl (by decide) (by decide) (by decide) (by decide) ?_
      refine m_iload_n C dX12_kilning_64 rfl ?_
      refine m_aload_n C dX12_kilning_65 rfl ?_
      refine m_iconst C dX12_kilning_66 (by unfold in32; omega) ?_
      refine m_bipush C dX12_kilning_67 (by omega) ?_
      refine f_callVi (As := [vI 1, vI 6]) (st := [vI x14, vR 34 19]) C dX12_kilning_69 ml_KilnBenchModel_352 rfl (by decide) rfl rfl rfl (Nat.le_of_ble_eq_true rfl) h (fun r20 μ19 h => ?_)
      obtain ⟨hb, h⟩ := h
      refine f_iast C dX12_kilning_72 (m_arO (a := 0) (len := 6) rfl rfl) (by decide) hb ?_
      refine n_mem (fun μ21 eμ21 => ?_)
      have h := h μ21 eμ21
      refine m_aload_n C dX12_kilning_73 rfl ?_
      refine f_getI C dX12_kilning_74 fl_KilnBenchModel_36 rfl (by decide) (by decide) ?_
      refine m_if_ne (tgt := 93) C dX12_kilning_77 (by decide) (fun c => ?_) (fun c => ?_)
      · have h := h.1 c
        exact f_vret C R rfl dX12_kilning_93 h
      · have h := h.2 c
        refine m_aload_n C dX12_kilning_80 rfl ?_
        refine f_getA C dX12_kilning_81 fl_KilnBenchModel_63 rfl (by decide) (by decide) (by decide) (by decide) ?_
        refine m_aload_n C dX12_kilning_84 rfl ?_
        refine f_getI C dX12_kilning_85 fl_KilnBenchModel_100 rfl (by decide) (by decide) ?_
        refine m_dup2 C dX12_kilning_88 rfl rfl ?_
        obtain ⟨hb, h⟩ := h
        refine f_iald C dX12_kilning_89 (m_arO (a := 0) (len := 2) rfl rfl) (by decide) hb ?_
        refine m_iconst C dX12_kilning_90 (by unfold in32; omega) ?_
        refine m_iadd C dX12_kilning_91 ?_
        obtain ⟨hb, h⟩ := h
        refine f_iast C dX12_kilning_92 (m_arO (a := 0) (len := 2) rfl rfl) (by decide) hb ?_
        refine n_mem (fun μ22 eμ22 => ?_)
        have h := h μ22 eμ22
        exact f_vret C R rfl dX12_kilning_93 h
    · have h := h.2 c
      exact f_vret C R rfl dX12_kilning_25 h

set_option maxRecDepth 20000 in
theorem VX12_reading_0 {G : m_G} {X : m_X} {d : Nat} {K : m_M → Prop} (C : mC G X YX12_reading (d + 1)) (R : r_v G X K) {μ : m_M} {a1 : Int}
    (h : ∀ x1 : Int, x1 = w32 ((w32 (4 * (μ 34 0 29))) + a1) → (0 ≤ x1 ∧ x1 < 8) ∧ ((μ 34 23 x1.toNat = (-1)) → c_i G d YX12_counts [vR 34 0, vI 0] μ (fun r3 μ2 => ((¬ r3 = 0) → ∀ μ4 : m_M, μ4 = m_up μ2 34 0 30 a1 → (0 ≤ x1 ∧ x1 < 8) ∧ ∀ μ5 : m_M, μ5 = m_up μ4 34 23 x1.toNat (μ4 34 0 28) → ((a1 = 1) → c_v G d YX12_reads [vR 34 0, vI 1] μ5 (fun μ6 => (0 ≤ x1 ∧ x1 < 8) ∧ ∀ μ7 : m_M, μ7 = m_up μ6 34 24 x1.toNat (μ6 34 0 28) → K μ7)) ∧ ((¬ a1 = 1) → ((¬ a1 = 2) → c_v G d YX12_reads [vR 34 0, vI 0] μ5 (fun μ8 => (0 ≤ x1 ∧ x1 < 8) ∧ ∀ μ9 : m_M, μ9 = m_up μ8 34 24 x1.toNat (μ8 34 0 28) → K μ9)) ∧ ((a1 = 2) → c_v G d YX12_reads [vR 34 0, vI 1] μ5 (fun μ10 => (0 ≤ x1 ∧ x1 < 8) ∧ ∀ μ11 : m_M, μ11 = m_up μ10 34 24 x1.toNat (μ10 34 0 28) → K μ11)))) ∧ ((r3 = 0) → K μ2))) ∧ ((¬ μ 34 23 x1.toNat = (-1)) → c_i G d YX12_counts [vR 34 0, vI 1] μ (fun r13 μ12 => ((¬ r13 = 0) → ∀ μ14 : m_M, μ14 = m_up μ12 34 0 30 a1 → (0 ≤ x1 ∧ x1 < 8) ∧ ∀ μ15 : m_M, μ15 = m_up μ14 34 23 x1.toNat (μ14 34 0 28) → ((a1 = 1) → c_v G d YX12_reads [vR 34 0, vI 1] μ15 (fun μ16 => (0 ≤ x1 ∧ x1 < 8) ∧ ∀ μ17 : m_M, μ17 = m_up μ16 34 24 x1.toNat (μ16 34 0 28) → K μ17)) ∧ ((¬ a1 = 1) → ((¬ a1 = 2) → c_v G d YX12_reads [vR 34 0, vI 0] μ15 (fun μ18 => (0 ≤ x1 ∧ x1 < 8) ∧ ∀ μ19 : m_M, μ19 = m_up μ18 34 24 x1.toNat (μ18 34 0 28) → K μ19)) ∧ ((a1 = 2) → c_v G d YX12_reads [vR 34 0, vI 1] μ15 (fun μ20 => (0 ≤ x1 ∧ x1 < 8) ∧ ∀ μ21 : m_M, μ21 = m_up μ20 34 24 x1.toNat (μ20 34 0 28) → K μ21)))) ∧ ((r13 = 0) → K μ12)))) :
    mW G X YX12_reading μ 0 [some (vR 34 0), some (vI a1), none] [] := by
  refine m_iconst C dX12_reading_0 (by unfold in32; omega) ?_
  refine m_aload_n C dX12_reading_1 rfl ?_
  refine f_getI C dX12_reading_2 fl_KilnBenchModel_100 rfl (by decide) (by decide) ?_
  refine m_imul C dX12_reading_5 ?_
  refine m_iload_n C dX12_reading_6 rfl ?_
  refine m_iadd C dX12_reading_7 ?_
  refine n_istore_n (fun x1 => [some (vR 34 0), some (vI a1), some (vI x1)]) C dX12_reading_8 (by decide) (fun _ => rfl) (fun x1 ex1 => ?_)
  have h := h x1 ex1
  refine m_aload_n C dX12_reading_9 rfl ?_
  refine m_aload_n C dX12_reading_10 rfl ?_
  refine f_getA C dX12_reading_11 fl_KilnBenchModel_78 rfl (by decide) (by decide) (by decide) (by decide) ?_
  refine m_iload_n C dX12_reading_14 rfl ?_
  obtain ⟨hb, h⟩ := h
  refine f_iald C dX12_reading_15 (m_arO (a := 0) (len := 8) rfl rfl) (by decide) hb ?_
  refine m_iconst C dX12_reading_16 (by unfold in32; omega) ?_
  refine m_icmp_eq (tgt := 24) C dX12_reading_17 (by decide) (fun c => ?_) (fun c => ?_)
  · have h := h.1 c
    refine m_iconst C dX12_reading_24 (by unfold in32; omega) ?_
    refine f_callVi (As := [vI 0]) (st := []) C dX12_reading_25 ml_KilnBenchModel_340 rfl (by decide) rfl rfl rfl (Nat.le_of_ble_eq_true rfl) h (fun r3 μ2 h => ?_)
    refine m_if_ne (tgt := 32) C dX12_reading_28 (by decide) (fun c => ?_) (fun c => ?_)
    · have h := h.1 c
      refine m_aload_n C dX12_reading_32 rfl ?_
      refine m_iload_n C dX12_reading_33 rfl ?_
      refine f_putI C dX12_reading_34 fl_KilnBenchModel_103 rfl (by decide) (by decide) (by decide) ?_
      refine n_mem (fun μ4 eμ4 => ?_)
      have h := h μ4 eμ4
      refine m_aload_n C dX12_reading_37 rfl ?_
      refine f_getA C dX12_reading_38 fl_KilnBenchModel_78 rfl (by decide) (by decide) (by decide) (by decide) ?_
      refine m_iload_n C dX12_reading_41 rfl ?_
      refine m_aload_n C dX12_reading_42 rfl ?_
      refine f_getI C dX12_reading_43 fl_KilnBenchModel_97 rfl (by decide) (by decide) ?_
      obtain ⟨hb, h⟩ := h
      refine f_iast C dX12_reading_46 (m_arO (a := 0) (len := 8) rfl rfl) (by decide) hb ?_
      refine n_mem (fun μ5 eμ5 => ?_)
      have h := h μ5 eμ5
      refine m_aload_n C dX12_reading_47 rfl ?_
      refine m_iload_n C dX12_reading_48 rfl ?_
      refine m_iconst C dX12_reading_49 (by unfold in32; omega) ?_
      refine m_icmp_eq (tgt := 58) C dX12_reading_50 (by decide) (fun c => ?_) (fun c => ?_)
      · have h := h.1 c
        refine m_iconst C dX12_reading_58 (by unfold in32; omega) ?_
        refine m_goto (tgt := 63) C dX12_reading_59 (by decide) ?_
        refine f_callVv (As := [vI 1]) (st := []) C dX12_reading_63 ml_KilnBenchModel_356 rfl (by decide) rfl rfl rfl (Nat.le_of_ble_eq_true rfl) h (fun μ6 h => ?_)
        refine m_aload_n C dX12_reading_66 rfl ?_
        refine f_getA C dX12_reading_67 fl_KilnBenchModel_81 rfl (by decide) (by decide) (by decide) (by decide) ?_
        refine m_iload_n C dX12_reading_70 rfl ?_
        refine m_aload_n C dX12_reading_71 rfl ?_
        refine f_getI C dX12_reading_72 fl_KilnBenchModel_97 rfl (by decide) (by decide) ?_
        obtain ⟨hb, h⟩ := h
        refine f_iast C dX12_reading_75 (m_arO (a := 0) (len := 8) rfl rfl) (by decide) hb ?_
        refine n_mem (fun μ7 eμ7 => ?_)
        have h := h μ7 eμ7
        exact f_vret C R rfl dX12_reading_76 h
      · have h := h.2 c
        refine m_iload_n C dX12_reading_53 rfl ?_
        refine m_iconst C dX12_reading_54 (by unfold in32; omega) ?_
        refine m_icmp_ne (tgt := 62) C dX12_reading_55 (by decide) (fun c => ?_) (fun c => ?_)
        · have h := h.1 c
          refine m_iconst C dX12_reading_62 (by unfold in32; omega) ?_
          refine f_callVv (As := [vI 0]) (st := []) C dX12_reading_63 ml_KilnBenchModel_356 rfl (by decide) rfl rfl rfl (Nat.le_of_ble_eq_true rfl) h (fun μ8 h => ?_)
          refine m_aload_n C dX12_reading_66 rfl ?_
          refine f_getA C dX12_reading_67 fl_KilnBenchModel_81 rfl (by decide) (by decide) (by decide) (by decide) ?_
          refine m_iload_n C dX12_reading_70 rfl ?_
          refine m_aload_n C dX12_reading_71 rfl ?_
          refine f_getI C dX12_reading_72 fl_KilnBenchModel_97 rfl (by decide) (by decide) ?_
          obtain ⟨hb, h⟩ := h
          refine f_iast C dX12_reading_75 (m_arO (a := 0) (len := 8) rfl rfl) (by decide) hb ?_
          refine n_mem (fun μ9 eμ9 => ?_)
          have h := h μ9 eμ9
          exact f_vret C R rfl dX12_reading_76 h
        · have h := h.2 c
          refine m_iconst C dX12_reading_58 (by unfold in32; omega) ?_
          refine m_goto (tgt := 63) C dX12_reading_59 (by decide) ?_
          refine f_callVv (As := [vI 1]) (st := []) C dX12_reading_63 ml_KilnBenchModel_356 rfl (by decide) rfl rfl rfl (Nat.le_of_ble_eq_true rfl) h (fun μ10 h => ?_)
          refine m_aload_n C dX12_reading_66 rfl ?_
          refine f_getA C dX12_reading_67 fl_KilnBenchModel_81 rfl (by decide) (by decide) (by decide) (by decide) ?_
          refine m_iload_n C dX12_reading_70 rfl ?_
          refine m_aload_n C dX12_reading_71 rfl ?_
          refine f_getI C dX12_reading_72 fl_KilnBenchModel_97 rfl (by decide) (by decide) ?_
          obtain ⟨hb, h⟩ := h
          refine f_iast C dX12_reading_75 (m_arO (a := 0) (len := 8) rfl rfl) (by decide) hb ?_
          refine n_mem (fun μ11 eμ11 => ?_)
          have h := h μ11 eμ11
          exact f_vret C R rfl dX12_reading_76 h
    · have h := h.2 c
      exact f_vret C R rfl dX12_reading_31 h
  · have h := h.2 c
    refine m_iconst C dX12_reading_20 (by unfold in32; omega) ?_
    refine m_goto (tgt := 25) C dX12_reading_21 (by decide) ?_
    refine f_callVi (As := [vI 1]) (st := []) C dX12_reading_25 ml_KilnBenchModel_340 rfl (by decide) rfl rfl rfl (Nat.le_of_ble_eq_true rfl) h (fun r13 μ12 h => ?_)
    refine m_if_ne (tgt := 32) C dX12_reading_28 (by decide) (fun c => ?_) (fun c => ?_)
    · have h := h.1 c
      refine m_aload_n C dX12_reading_32 rfl ?_
      refine m_iload_n C dX12_reading_33 rfl ?_
      refine f_putI C dX12_reading_34 fl_KilnBenchModel_103 rfl (by decide) (by decide) (by decide) ?_
      refine n_mem (fun μ14 eμ14 => ?_)
      have h := h μ14 eμ14
      refine m_aload_n C dX12_reading_37 rfl ?_
      refine f_getA C dX12_reading_38 fl_KilnBenchModel_78 rfl (by decide) (by decide) (by decide) (by decide) ?_
      refine m_iload_n C dX12_reading_41 rfl ?_
      refine m_aload_n C dX12_reading_42 rfl ?_
      refine f_getI C dX12_reading_43 fl_KilnBenchModel_97 rfl (by decide) (by decide) ?_
      obtain ⟨hb, h⟩ := h
      refine f_iast C dX12_reading_46 (m_arO (a := 0) (len := 8) rfl rfl) (by decide) hb ?_
      refine n_mem (fun μ15 eμ15 => ?_)
      have h := h μ15 eμ15
      refine m_aload_n C dX12_reading_47 rfl ?_
      refine m_iload_n C dX12_reading_48 rfl ?_
      refine m_iconst C dX12_reading_49 (by unfold in32; omega) ?_
      refine m_icmp_eq (tgt := 58) C dX12_reading_50 (by decide) (fun c => ?_) (fun c => ?_)
      · have h := h.1 c
        refine m_iconst C dX12_reading_58 (by unfold in32; omega) ?_
        refine m_goto (tgt := 63) C dX12_reading_59 (by decide) ?_
        refine f_callVv (As := [vI 1]) (st := []) C dX12_reading_63 ml_KilnBenchModel_356 rfl (by decide) rfl rfl rfl (Nat.le_of_ble_eq_true rfl) h (fun μ16 h => ?_)
        refine m_aload_n C dX12_reading_66 rfl ?_
        refine f_getA C dX12_reading_67 fl_KilnBenchModel_81 rfl (by decide) (by decide) (by decide) (by decide) ?_
        refine m_iload_n C dX12_reading_70 rfl ?_
        refine m_aload_n C dX12_reading_71 rfl ?_
        refine f_getI C dX12_reading_72 fl_KilnBenchModel_97 rfl (by decide) (by decide) ?_
        obtain ⟨hb, h⟩ := h
        refine f_iast C dX12_reading_75 (m_arO (a := 0) (len := 8) rfl rfl) (by decide) hb ?_
        refine n_mem (fun μ17 eμ17 => ?_)
        have h := h μ17 eμ17
        exact f_vret C R rfl dX12_reading_76 h
      · have h := h.2 c
        refine m_iload_n C dX12_reading_53 rfl ?_
        refine m_iconst C dX12_reading_54 (by unfold in32; omega) ?_
        refine m_icmp_ne (tgt := 62) C dX12_reading_55 (by decide) (fun c => ?_) (fun c => ?_)
        · have h := h.1 c
          refine m_iconst C dX12_reading_62 (by unfold in32; omega) ?_
          refine f_callVv (As := [vI 0]) (st := []) C dX12_reading_63 ml_KilnBenchModel_356 rfl (by decide) rfl rfl rfl (Nat.le_of_ble_eq_true rfl) h (fun μ18 h => ?_)
          refine m_aload_n C dX12_reading_66 rfl ?_
          refine f_getA C dX12_reading_67 fl_KilnBenchModel_81 rfl (by decide) (by decide) (by decide) (by decide) ?_
          refine m_iload_n C dX12_reading_70 rfl ?_
          refine m_aload_n C dX12_reading_71 rfl ?_
          refine f_getI C dX12_reading_72 fl_KilnBenchModel_97 rfl (by decide) (by decide) ?_
          obtain ⟨hb, h⟩ := h
          refine f_iast C dX12_reading_75 (m_arO (a := 0) (len := 8) rfl rfl) (by decide) hb ?_
          refine n_mem (fun μ19 eμ19 => ?_)
          have h := h μ19 eμ19
          exact f_vret C R rfl dX12_reading_76 h
        · have h := h.2 c
          refine m_iconst C dX12_reading_58 (by unfold in32; omega) ?_
          refine m_goto (tgt := 63) C dX12_reading_59 (by decide) ?_
          refine f_callVv (As := [vI 1]) (st := []) C dX12_reading_63 ml_KilnBenchModel_356 rfl (by decide) rfl rfl rfl (Nat.le_of_ble_eq_true rfl) h (fun μ20 h => ?_)
          refine m_aload_n C dX12_reading_66 rfl ?_
          refine f_getA C dX12_reading_67 fl_KilnBenchModel_81 rfl (by decide) (by decide) (by decide) (by decide) ?_
          refine m_iload_n C dX12_reading_70 rfl ?_
          refine m_aload_n C dX12_reading_71 rfl ?_
          refine f_getI C dX12_reading_72 fl_KilnBenchModel_97 rfl (by decide) (by decide) ?_
          obtain ⟨hb, h⟩ := h
          refine f_iast C dX12_reading_75 (m_arO (a := 0) (len := 8) rfl rfl) (by decide) hb ?_
          refine n_mem (fun μ21 eμ21 => ?_)
          have h := h μ21 eμ21
          exact f_vret C R rfl dX12_reading_76 h
    · have h := h.2 c
      exact f_vret C R rfl dX12_reading_31 h

set_option maxRecDepth 20000 in
theorem VX12_yarding_0 {G : m_G} {X : m_X} {d : Nat} {K : Int → m_M → Prop} (C : mC G X YX12_yarding (d + 1)) (R : r_i G X K) {μ : m_M} {a1 : Int}
    (h : c_i G d YX12_counts [vR 34 0, vI 0] μ (fun r2 μ1 => ((¬ r2 = 0) → c_i G d YX12_number [vR 34 0, vI 0, vI a1] μ1 (fun r4 μ3 => K r4 μ3)) ∧ ((r2 = 0) → K 0 μ1))) :
    mW G X YX12_yarding μ 0 [some (vR 34 0), some (vI a1)] [] := by
  refine m_aload_n C dX12_yarding_0 rfl ?_
  refine m_iconst C dX12_yarding_1 (by unfold in32; omega) ?_
  refine f_callVi (As := [vI 0]) (st := []) C dX12_yarding_2 ml_KilnBenchModel_340 rfl (by decide) rfl rfl rfl (Nat.le_of_ble_eq_true rfl) h (fun r2 μ1 h => ?_)
  refine m_if_ne (tgt := 10) C dX12_yarding_5 (by decide) (fun c => ?_) (fun c => ?_)
  · have h := h.1 c
    refine m_aload_n C dX12_yarding_10 rfl ?_
    refine m_iconst C dX12_yarding_11 (by unfold in32; omega) ?_
    refine m_iload_n C dX12_yarding_12 rfl ?_
    refine f_callVi (As := [vI 0, vI a1]) (st := []) C dX12_yarding_13 ml_KilnBenchModel_352 rfl (by decide) rfl rfl rfl (Nat.le_of_ble_eq_true rfl) h (fun r4 μ3 h => ?_)
    exact f_iret C R rfl dX12_yarding_16 h
  · have h := h.2 c
    refine m_iconst C dX12_yarding_8 (by unfold in32; omega) ?_
    exact f_iret C R rfl dX12_yarding_9 h

set_option maxRecDepth 20000 in
theorem VX12_statement_0 {G : m_G} {X : m_X} {d : Nat} {K : m_M → Prop} (C : mC G X YX12_statement (d + 1)) (R : r_v G X K) {μ : m_M}
    (h : c_v G d YX12_lex [vR 34 0] μ (fun μ1 => ((μ1 34 0 8 ≤ 0) → c_i G d YX12_isWord [vR 34 0, vJ 426953501796] μ1 (fun r3 μ2 => ((r3 = 0) → c_i G d YX12_isWord [vR 34 0, vJ 1802071150] μ2 (fun r5 μ4 => ((r5 = 0) → c_i G d YX12_isWord [vR 34 0, vJ 127978976601458] μ4 (fun r7 μ6 => ((r7 = 0) → c_i G d YX12_isWord [vR 34 0, vJ 109342911327091] μ6 (fun r9 μ8 => ((r9 = 0) → c_i G d YX12_isWord [vR 34 0, vJ 126943821523827] μ8 (fun r11 μ10 => ((r11 = 0) → c_i G d YX12_isWord [vR 34 0, vJ 422877228659] μ10 (fun r13 μ12 => ((r13 = 0) → c_i G d YX12_isWord [vR 34 0, vJ 1718969708] μ12 (fun r15 μ14 => ((r15 = 0) → c_i G d YX12_isWord [vR 34 0, vJ 1819238756] μ14 (fun r17 μ16 => ((r17 = 0) → c_i G d YX12_isWord [vR 34 0, vJ 2003398244] μ16 (fun r19 μ18 => ((r19 = 0) → c_v G d YX12_blame [vR 34 0, vI 1, vI (μ18 34 0 4)] μ18 (fun μ20 => K μ20)) ∧ ((¬ r19 = 0) → c_i G d YX12_yarding [vR 34 0, vI 100] μ18 (fun r22 μ21 => (0 ≤ μ18 34 0 29 ∧ μ18 34 0 29 < 2) ∧ ∀ μ23 : m_M, μ23 = m_up μ21 34 22 (μ18 34 0 29).toNat r22 → K μ23)))) ∧ ((¬ r17 = 0) → c_i G d YX12_yarding [vR 34 0, vI 999] μ16 (fun r25 μ24 => (0 ≤ μ16 34 0 29 ∧ μ16 34 0 29 < 2) ∧ ∀ μ26 : m_M, μ26 = m_up μ24 34 21 (μ16 34 0 29).toNat r25 → K μ26)))) ∧ ((¬ r15 = 0) → c_i G d YX12_yarding [vR 34 0, vI 999] μ14 (fun r28 μ27 => (0 ≤ μ14 34 0 29 ∧ μ14 34 0 29 < 2) ∧ ∀ μ29 : m_M, μ29 = m_up μ27 34 20 (μ14 34 0 29).toNat r28 → K μ29)))) ∧ ((¬ r13 = 0) → c_v G d YX12_reading [vR 34 0, vI 3] μ12 (fun μ30 => K μ30)))) ∧ ((¬ r11 = 0) → c_v G d YX12_reading [vR 34 0, vI 2] μ10 (fun μ31 => K μ31)))) ∧ ((¬ r9 = 0) → c_v G d YX12_reading [vR 34 0, vI 1] μ8 (fun μ32 => K μ32)))) ∧ ((¬ r7 = 0) → c_v G d YX12_reading [vR 34 0, vI 0] μ6 (fun μ33 => K μ33)))) ∧ ((¬ r5 = 0) → c_v G d YX12_kilning [vR 34 0] μ4 (fun μ34 => K μ34)))) ∧ ((¬ r3 = 0) → c_v G d YX12_childing [vR 34 0] μ2 (fun μ35 => K μ35)))) ∧ ((¬ μ1 34 0 8 ≤ 0) → K μ1))) :
    mW G X YX12_statement μ 0 [some (vR 34 0)] [] := by
  refine m_aload_n C dX12_statement_0 rfl ?_
  refine f_callVv (As := []) (st := []) C dX12_statement_1 ml_KilnBenchModel_235 rfl (by decide) rfl rfl rfl (Nat.le_of_ble_eq_true rfl) h (fun μ1 h => ?_)
  refine m_aload_n C dX12_statement_4 rfl ?_
  refine f_getI C dX12_statement_5 fl_KilnBenchModel_36 rfl (by decide) (by decide) ?_
  refine m_if_le (tgt := 12) C dX12_statement_8 (by decide) (fun c => ?_) (fun c => ?_)
  · have h := h.1 c
    refine m_aload_n C dX12_statement_12 rfl ?_
    refine m_ldc2 (x := 426953501796) C dX12_statement_13 lc_KilnBenchModel_244 rfl ?_
    refine f_callVi (As := [vJ 426953501796]) (st := []) C dX12_statement_16 ml_KilnBenchModel_312 rfl (by decide) rfl rfl rfl (Nat.le_of_ble_eq_true rfl) h (fun r3 μ2 h => ?_)
    refine m_if_eq (tgt := 29) C dX12_statement_19 (by decide) (fun c => ?_) (fun c => ?_)
    · have h := h.1 c
      refine m_aload_n C dX12_statement_29 rfl ?_
      refine m_ldc2 (x := 1802071150) C dX12_statement_30 lc_KilnBenchModel_250 rfl ?_
      refine f_callVi (As := [vJ 1802071150]) (st := []) C dX12_statement_33 ml_KilnBenchModel_312 rfl (by decide) rfl rfl rfl (Nat.le_of_ble_eq_true rfl) h (fun r5 μ4 h => ?_)
      refine m_if_eq (tgt := 46) C dX12_statement_36 (by decide) (fun c => ?_) (fun c => ?_)
      · have h := h.1 c
        refine m_aload_n C dX12_statement_46 rfl ?_
        refine m_ldc2 (x := 127978976601458) C dX12_statement_47 lc_KilnBenchModel_254 rfl ?_
        refine f_callVi (As := [vJ 127978976601458]) (st := []) C dX12_statement_50 ml_KilnBenchModel_312 rfl (by decide) rfl rfl rfl (Nat.le_of_ble_eq_true rfl) h (fun r7 μ6 h => ?_)
        refine m_if_eq (tgt := 64) C dX12_statement_53 (by decide) (fun c => ?_) (fun c => ?_)
        · have h := h.1 c
          refine m_aload_n C dX12_statement_64 rfl ?_
          refine m_ldc2 (x := 109342911327091) C dX12_statement_65 lc_KilnBenchModel_256 rfl ?_
          refine f_callVi (As := [vJ 109342911327091]) (st := []) C dX12_statement_68 ml_KilnBenchModel_312 rfl (by decide) rfl rfl rfl (Nat.le_of_ble_eq_true rfl) h (fun r9 μ8 h => ?_)
          refine m_if_eq (tgt := 82) C dX12_statement_71 (by decide) (fun c => ?_) (fun c => ?_)
          · have h := h.1 c
            refine m_aload_n C dX12_statement_82 rfl ?_
            refine m_ldc2 (x := 126943821523827) C dX12_statement_83 lc_KilnBenchModel_258 rfl ?_
            refine f_callVi (As := [vJ 126943821523827]) (st := []) C dX12_statement_86 ml_KilnBenchModel_312 rfl (by decide) rfl rfl rfl (Nat.le_of_ble_eq_true rfl) h (fun r11 μ10 h => ?_)
            refine m_if_eq (tgt := 100) C dX12_statement_89 (by decide) (fun c => ?_) (fun c => ?_)
            · have h := h.1 c
              refine m_aload_n C dX12_statement_100 rfl ?_
              refine m_ldc2 (x := 422877228659) C dX12_statement_101 lc_KilnBenchModel_260 rfl ?_
              refine f_callVi (As := [vJ 422877228659]) (st := []) C dX12_statement_104 ml_KilnBenchModel_312 rfl (by decide) rfl rfl rfl (Nat.le_of_ble_eq_true rfl) h (fun r13 μ12 h => ?_)
              refine m_if_eq (tgt := 118) C dX12_statement_107 (by decide) (fun c => ?_) (fun c => ?_)
              · have h := h.1 c
                refine m_aload_n C dX12_statement_118 rfl ?_
                refine m_ldc2 (x := 1718969708) C dX12_statement_119 lc_KilnBenchModel_262 rfl ?_
                refine f_callVi (As := [vJ 1718969708]) (st := []) C dX12_statement_122 ml_KilnBenchModel_312 rfl (by decide) rfl rfl rfl (Nat.le_of_ble_eq_true rfl) h (fun r15 μ14 h => ?_)
                refine m_if_eq (tgt := 147) C dX12_statement_125 (by decide) (fun c => ?_) (fun c => ?_)
                · have h := h.1 c
                  refine m_aload_n C dX12_statement_147 rfl ?_
                  refine m_ldc2 (x := 1819238756) C dX12_statement_148 lc_KilnBenchModel_264 rfl ?_
                  refine f_callVi (As := [vJ 1819238756]) (st := []) C dX12_statement_151 ml_KilnBenchModel_312 rfl (by decide) rfl rfl rfl (Nat.le_of_ble_eq_true rfl) h (fun r17 μ16 h => ?_)
                  refine m_if_eq (tgt := 176) C dX12_statement_154 (by decide) (fun c => ?_) (fun c => ?_)
                  · have h := h.1 c
                    refine m_aload_n C dX12_statement_176 rfl ?_
                    refine m_ldc2 (x := 2003398244) C dX12_statement_177 lc_KilnBenchModel_266 rfl ?_
                    refine f_callVi (As := [vJ 2003398244]) (st := []) C dX12_statement_180 ml_KilnBenchModel_312 rfl (by decide) rfl rfl rfl (Nat.le_of_ble_eq_true rfl) h (fun r19 μ18 h => ?_)
                    refine m_if_eq (tgt := 204) C dX12_statement_183 (by decide) (fun c => ?_) (fun c => ?_)
                    · have h := h.1 c
                      refine m_aload_n C dX12_statement_204 rfl ?_
                      refine m_iconst C dX12_statement_205 (by unfold in32; omega) ?_
                      refine m_aload_n C dX12_statement_206 rfl ?_
                      refine f_getI C dX12_statement_207 fl_KilnBenchModel_23 rfl (by decide) (by decide) ?_
                      refine f_callVv (As := [vI 1, vI (μ18 34 0 4)]) (st := []) C dX12_statement_210 ml_KilnBenchModel_224 rfl (by decide) rfl rfl rfl (Nat.le_of_ble_eq_true rfl) h (fun μ20 h => ?_)
                      exact f_vret C R rfl dX12_statement_213 h
                    · have h := h.2 c
                      refine m_aload_n C dX12_statement_186 rfl ?_
                      refine f_getA C dX12_statement_187 fl_KilnBenchModel_75 rfl (by decide) (by decide) (by decide) (by decide) ?_
                      refine m_aload_n C dX12_statement_190 rfl ?_
                      refine f_getI C dX12_statement_191 fl_KilnBenchModel_100 rfl (by decide) (by decide) ?_
                      refine m_aload_n C dX12_statement_194 rfl ?_
                      refine m_bipush C dX12_statement_195 (by omega) ?_
                      refine f_callVi (As := [vI 100]) (st := [vI (μ18 34 0 29), vR 34 22]) C dX12_statement_197 ml_KilnBenchModel_369 rfl (by decide) rfl rfl rfl (Nat.le_of_ble_eq_true rfl) h (fun r22 μ21 h => ?_)
                      obtain ⟨hb, h⟩ := h
                      refine f_iast C dX12_statement_200 (m_arO (a := 0) (len := 2) rfl rfl) (by decide) hb ?_
                      refine n_mem (fun μ23 eμ23 => ?_)
                      have h := h μ23 eμ23
                      refine m_goto (tgt := 213) C dX12_statement_201 (by decide) ?_
                      exact f_vret C R rfl dX12_statement_213 h
                  · have h := h.2 c
                    refine m_aload_n C dX12_statement_157 rfl ?_
                    refine f_getA C dX12_statement_158 fl_KilnBenchModel_72 rfl (by decide) (by decide) (by decide) (by decide) ?_
                    refine m_aload_n C dX12_statement_161 rfl ?_
                    refine f_getI C dX12_statement_162 fl_KilnBenchModel_100 rfl (by decide) (by decide) ?_
                    refine m_aload_n C dX12_statement_165 rfl ?_
                    refine m_sipush C dX12_statement_166 (by omega) ?_
                    refine f_callVi (As := [vI 999]) (st := [vI (μ16 34 0 29), vR 34 21]) C dX12_statement_169 ml_KilnBenchModel_369 rfl (by decide) rfl rfl rfl (Nat.le_of_ble_eq_true rfl) h (fun r25 μ24 h => ?_)
                    obtain ⟨hb, h⟩ := h
                    refine f_iast C dX12_statement_172 (m_arO (a := 0) (len := 2) rfl rfl) (by decide) hb ?_
                    refine n_mem (fun μ26 eμ26 => ?_)
                    have h := h μ26 eμ26
                    refine m_goto (tgt := 213) C dX12_statement_173 (by decide) ?_
                    exact f_vret C R rfl dX12_statement_213 h
                · have h := h.2 c
                  refine m_aload_n C dX12_statement_128 rfl ?_
                  refine f_getA C dX12_statement_129 fl_KilnBenchModel_69 rfl (by decide) (by decide) (by decide) (by decide) ?_
                  refine m_aload_n C dX12_statement_132 rfl ?_
                  refine f_getI C dX12_statement_133 fl_KilnBenchModel_100 rfl (by decide) (by decide) ?_
                  refine m_aload_n C dX12_statement_136 rfl ?_
                  refine m_sipush C dX12_statement_137 (by omega) ?_
                  refine f_callVi (As := [vI 999]) (st := [vI (μ14 34 0 29), vR 34 20]) C dX12_statement_140 ml_KilnBenchModel_369 rfl (by decide) rfl rfl rfl (Nat.le_of_ble_eq_true rfl) h (fun r28 μ27 h => ?_)
                  obtain ⟨hb, h⟩ := h
                  refine f_iast C dX12_statement_143 (m_arO (a := 0) (len := 2) rfl rfl) (by decide) hb ?_
                  refine n_mem (fun μ29 eμ29 => ?_)
                  have h := h μ29 eμ29
                  refine m_goto (tgt := 213) C dX12_statement_144 (by decide) ?_
                  exact f_vret C R rfl dX12_statement_213 h
              · have h := h.2 c
                refine m_aload_n C dX12_statement_110 rfl ?_
                refine m_iconst C dX12_statement_111 (by unfold in32; omega) ?_
                refine f_callVv (As := [vI 3]) (st := []) C dX12_statement_112 ml_KilnBenchModel_366 rfl (by decide) rfl rfl rfl (Nat.le_of_ble_eq_true rfl) h (fun μ30 h => ?_)
                refine m_goto (tgt := 213) C dX12_statement_115 (by decide) ?_
                exact f_vret C R rfl dX12_statement_213 h
            · have h := h.2 c
              refine m_aload_n C dX12_statement_92 rfl ?_
              refine m_iconst C dX12_statement_93 (by unfold in32; omega) ?_
              refine f_callVv (As := [vI 2]) (st := []) C dX12_statement_94 ml_KilnBenchModel_366 rfl (by decide) rfl rfl rfl (Nat.le_of_ble_eq_true rfl) h (fun μ31 h => ?_)
              refine m_goto (tgt := 213) C dX12_statement_97 (by decide) ?_
              exact f_vret C R rfl dX12_statement_213 h
          · have h := h.2 c
            refine m_aload_n C dX12_statement_74 rfl ?_
            refine m_iconst C dX12_statement_75 (by unfold in32; omega) ?_
            refine f_callVv (As := [vI 1]) (st := []) C dX12_statement_76 ml_KilnBenchModel_366 rfl (by decide) rfl rfl rfl (Nat.le_of_ble_eq_true rfl) h (fun μ32 h => ?_)
            refine m_goto (tgt := 213) C dX12_statement_79 (by decide) ?_
            exact f_vret C R rfl dX12_statement_213 h
        · have h := h.2 c
          refine m_aload_n C dX12_statement_56 rfl ?_
          refine m_iconst C dX12_statement_57 (by unfold in32; omega) ?_
          refine f_callVv (As := [vI 0]) (st := []) C dX12_statement_58 ml_KilnBenchModel_366 rfl (by decide) rfl rfl rfl (Nat.le_of_ble_eq_true rfl) h (fun μ33 h => ?_)
          refine m_goto (tgt := 213) C dX12_statement_61 (by decide) ?_
          exact f_vret C R rfl dX12_statement_213 h
      · have h := h.2 c
        refine m_aload_n C dX12_statement_39 rfl ?_
        refine f_callVv (As := []) (st := []) C dX12_statement_40 ml_KilnBenchModel_363 rfl (by decide) rfl rfl rfl (Nat.le_of_ble_eq_true rfl) h (fun μ34 h => ?_)
        refine m_goto (tgt := 213) C dX12_statement_43 (by decide) ?_
        exact f_vret C R rfl dX12_statement_213 h
    · have h := h.2 c
      refine m_aload_n C dX12_statement_22 rfl ?_
      refine f_callVv (As := []) (st := []) C dX12_statement_23 ml_KilnBenchModel_360 rfl (by decide) rfl rfl rfl (Nat.le_of_ble_eq_true rfl) h (fun μ35 h => ?_)
      refine m_goto (tgt := 213) C dX12_statement_26 (by decide) ?_
      exact f_vret C R rfl dX12_statement_213 h
  · have h := h.2 c
    exact f_vret C R rfl dX12_statement_11 h

set_option maxRecDepth 20000 in
theorem VX12_finishes_0 {G : m_G} {X : m_X} {d : Nat} {K : m_M → Prop} (C : mC G X YX12_finishes (d + 1)) (R : r_v G X K) {μ : m_M} {a1 : Int}
    (h : c_v G d YX12_lex [vR 34 0] μ (fun μ1 => ((μ1 34 0 8 ≤ 0) → ∀ x2 : Int, x2 = μ1 34 0 5 → mW G X YX12_finishes μ1 17 [some (vR 34 0), some (vI a1), some (vI x2)] []) ∧ ((¬ μ1 34 0 8 ≤ 0) → K μ1))) :
    mW G X YX12_finishes μ 0 [some (vR 34 0), some (vI a1), none] [] := by
  refine m_aload_n C dX12_finishes_0 rfl ?_
  refine f_callVv (As := []) (st := []) C dX12_finishes_1 ml_KilnBenchModel_235 rfl (by decide) rfl rfl rfl (Nat.le_of_ble_eq_true rfl) h (fun μ1 h => ?_)
  refine m_aload_n C dX12_finishes_4 rfl ?_
  refine f_getI C dX12_finishes_5 fl_KilnBenchModel_36 rfl (by decide) (by decide) ?_
  refine m_if_le (tgt := 12) C dX12_finishes_8 (by decide) (fun c => ?_) (fun c => ?_)
  · have h := h.1 c
    refine m_aload_n C dX12_finishes_12 rfl ?_
    refine f_getI C dX12_finishes_13 fl_KilnBenchModel_26 rfl (by decide) (by decide) ?_
    refine n_istore_n (fun x2 => [some (vR 34 0), some (vI a1), some (vI x2)]) C dX12_finishes_16 (by decide) (fun _ => rfl) (fun x2 ex2 => ?_)
    have h := h x2 ex2
    exact h
  · have h := h.2 c
    exact f_vret C R rfl dX12_finishes_11 h

set_option maxRecDepth 20000 in
theorem VX12_finishes_17 {G : m_G} {X : m_X} {d : Nat} {K : m_M → Prop} (C : mC G X YX12_finishes (d + 1)) (R : r_v G X K) {μ : m_M} {a1 : Int} {l2 : Int}
    (h : ((μ 34 0 2 ≤ l2) → mW G X YX12_finishes μ 53 [some (vR 34 0), some (vI a1), some (vI l2)] []) ∧ ((¬ μ 34 0 2 ≤ l2) → (0 ≤ l2 ∧ l2 < 1800) ∧ ((μ 34 1 l2.toNat = 32) → ∀ x1 : Int, x1 = w32 (l2 + 1) → mW G X YX12_finishes μ 17 [some (vR 34 0), some (vI a1), some (vI x1)] []) ∧ ((¬ μ 34 1 l2.toNat = 32) → (0 ≤ l2 ∧ l2 < 1800) ∧ ((¬ (μ 34 1 l2.toNat) = 10) → mW G X YX12_finishes μ 53 [some (vR 34 0), some (vI a1), some (vI l2)] []) ∧ ((μ 34 1 l2.toNat = 10) → ∀ x2 : Int, x2 = w32 (l2 + 1) → mW G X YX12_finishes μ 17 [some (vR 34 0), some (vI a1), some (vI x2)] [])))) :
    mW G X YX12_finishes μ 17 [some (vR 34 0), some (vI a1), some (vI l2)] [] := by
  refine m_iload_n C dX12_finishes_17 rfl ?_
  refine m_aload_n C dX12_finishes_18 rfl ?_
  refine f_getI C dX12_finishes_19 fl_KilnBenchModel_17 rfl (by decide) (by decide) ?_
  refine m_icmp_ge (tgt := 53) C dX12_finishes_22 (by decide) (fun c => ?_) (fun c => ?_)
  · have h := h.1 c
    exact h
  · have h := h.2 c
    refine m_aload_n C dX12_finishes_25 rfl ?_
    refine f_getA C dX12_finishes_26 fl_KilnBenchModel_7 rfl (by decide) (by decide) (by decide) (by decide) ?_
    refine m_iload_n C dX12_finishes_29 rfl ?_
    obtain ⟨hb, h⟩ := h
    refine f_iald C dX12_finishes_30 (m_arO (a := 0) (len := 1800) rfl rfl) (by decide) hb ?_
    refine m_bipush C dX12_finishes_31 (by omega) ?_
    refine m_icmp_eq (tgt := 47) C dX12_finishes_33 (by decide) (fun c => ?_) (fun c => ?_)
    · have h := h.1 c
      refine n_iinc (fun x1 => [some (vR 34 0), some (vI a1), some (vI x1)]) C dX12_finishes_47 rfl (by decide) (fun _ => rfl) (fun x1 ex1 => ?_)
      have h := h x1 ex1
      refine m_goto (tgt := 17) C dX12_finishes_50 (by decide) ?_
      exact h
    · have h := h.2 c
      refine m_aload_n C dX12_finishes_36 rfl ?_
      refine f_getA C dX12_finishes_37 fl_KilnBenchModel_7 rfl (by decide) (by decide) (by decide) (by decide) ?_
      refine m_iload_n C dX12_finishes_40 rfl ?_
      obtain ⟨hb, h⟩ := h
      refine f_iald C dX12_finishes_41 (m_arO (a := 0) (len := 1800) rfl rfl) (by decide) hb ?_
      refine m_bipush C dX12_finishes_42 (by omega) ?_
      refine m_icmp_ne (tgt := 53) C dX12_finishes_44 (by decide) (fun c => ?_) (fun c => ?_)
      · have h := h.1 c
        exact h
      · have h := h.2 c
        refine n_iinc (fun x2 => [some (vR 34 0), some (vI a1), some (vI x2)]) C dX12_finishes_47 rfl (by decide) (fun _ => rfl) (fun x2 ex2 => ?_)
        have h := h x2 ex2
        refine m_goto (tgt := 17) C dX12_finishes_50 (by decide) ?_
        exact h

set_option maxRecDepth 20000 in
theorem VX12_finishes_53 {G : m_G} {X : m_X} {d : Nat} {K : m_M → Prop} (C : mC G X YX12_finishes (d + 1)) (R : r_v G X K) {μ : m_M} {a1 : Int} {l2 : Int}
    (h : c_i G d YX12_isSign [vR 34 0, vI 59] μ (fun r2 μ1 => ((r2 = 0) → c_v G d YX12_must [vR 34 0, vI 59] μ1 (fun μ3 => K μ3)) ∧ ((¬ r2 = 0) → ((¬ a1 = 80) → c_v G d YX12_must [vR 34 0, vI 59] μ1 (fun μ4 => K μ4)) ∧ ((a1 = 80) → ((μ1 34 0 2 ≤ l2) → c_v G d YX12_must [vR 34 0, vI 59] μ1 (fun μ5 => K μ5)) ∧ ((¬ μ1 34 0 2 ≤ l2) → c_v G d YX12_blame [vR 34 0, vI 6, vI l2] μ1 (fun μ6 => c_v G d YX12_must [vR 34 0, vI 59] μ6 (fun μ7 => K μ7))))))) :
    mW G X YX12_finishes μ 53 [some (vR 34 0), some (vI a1), some (vI l2)] [] := by
  refine m_aload_n C dX12_finishes_53 rfl ?_
  refine m_bipush C dX12_finishes_54 (by omega) ?_
  refine f_callVi (As := [vI 59]) (st := []) C dX12_finishes_56 ml_KilnBenchModel_238 rfl (by decide) rfl rfl rfl (Nat.le_of_ble_eq_true rfl) h (fun r2 μ1 h => ?_)
  refine m_if_eq (tgt := 83) C dX12_finishes_59 (by decide) (fun c => ?_) (fun c => ?_)
  · have h := h.1 c
    refine m_aload_n C dX12_finishes_83 rfl ?_
    refine m_bipush C dX12_finishes_84 (by omega) ?_
    refine f_callVv (As := [vI 59]) (st := []) C dX12_finishes_86 ml_KilnBenchModel_372 rfl (by decide) rfl rfl rfl (Nat.le_of_ble_eq_true rfl) h (fun μ3 h => ?_)
    exact f_vret C R rfl dX12_finishes_89 h
  · have h := h.2 c
    refine m_iload_n C dX12_finishes_62 rfl ?_
    refine m_bipush C dX12_finishes_63 (by omega) ?_
    refine m_icmp_ne (tgt := 83) C dX12_finishes_65 (by decide) (fun c => ?_) (fun c => ?_)
    · have h := h.1 c
      refine m_aload_n C dX12_finishes_83 rfl ?_
      refine m_bipush C dX12_finishes_84 (by omega) ?_
      refine f_callVv (As := [vI 59]) (st := []) C dX12_finishes_86 ml_KilnBenchModel_372 rfl (by decide) rfl rfl rfl (Nat.le_of_ble_eq_true rfl) h (fun μ4 h => ?_)
      exact f_vret C R rfl dX12_finishes_89 h
    · have h := h.2 c
      refine m_iload_n C dX12_finishes_68 rfl ?_
      refine m_aload_n C dX12_finishes_69 rfl ?_
      refine f_getI C dX12_finishes_70 fl_KilnBenchModel_17 rfl (by decide) (by decide) ?_
      refine m_icmp_ge (tgt := 83) C dX12_finishes_73 (by decide) (fun c => ?_) (fun c => ?_)
      · have h := h.1 c
        refine m_aload_n C dX12_finishes_83 rfl ?_
        refine m_bipush C dX12_finishes_84 (by omega) ?_
        refine f_callVv (As := [vI 59]) (st := []) C dX12_finishes_86 ml_KilnBenchModel_372 rfl (by decide) rfl rfl rfl (Nat.le_of_ble_eq_true rfl) h (fun μ5 h => ?_)
        exact f_vret C R rfl dX12_finishes_89 h
      · have h := h.2 c
        refine m_aload_n C dX12_finishes_76 rfl ?_
        refine m_bipush C dX12_finishes_77 (by omega) ?_
        refine m_iload_n C dX12_finishes_79 rfl ?_
        refine f_callVv (As := [vI 6, vI l2]) (st := []) C dX12_finishes_80 ml_KilnBenchModel_224 rfl (by decide) rfl rfl rfl (Nat.le_of_ble_eq_true rfl) h (fun μ6 h => ?_)
        refine m_aload_n C dX12_finishes_83 rfl ?_
        refine m_bipush C dX12_finishes_84 (by omega) ?_
        refine f_callVv (As := [vI 59]) (st := []) C dX12_finishes_86 ml_KilnBenchModel_372 rfl (by decide) rfl rfl rfl (Nat.le_of_ble_eq_true rfl) h (fun μ7 h => ?_)
        exact f_vret C R rfl dX12_finishes_89 h

