/-! ===== the class's constructor ===== -/
abbrev YX11_init : m_Y := (yX11_init, cX11_init, 1, none)
theorem wo_KilnBench_1 : Cond.methodLink "KilnBench" 1 Lib.objectInit ∈ m_w := m_mem 135 (by decide +kernel) rfl
theorem wc_KilnBench_17 : Cond.classLink "KilnBench" 17 "KilnBench$Town" ∈ m_w := m_mem 138 (by decide +kernel) rfl
theorem wi_KilnBench_Town : Cond.instantiable "KilnBench$Town" 15 ∈ m_w := m_mem 139 (by decide +kernel) rfl
theorem wn_KilnBench_Town : Cond.initialized "KilnBench$Town" ∈ m_w := m_mem 110 (by decide +kernel) rfl
theorem co_X10_init : m_co YX10_init := ⟨m_mem 142 (by decide +kernel) rfl, m_mem 110 (by decide +kernel) rfl, by decide⟩
theorem li_KilnBench_19 : m_LI "KilnBench" 19 YX10_init 0 := ⟨co_X10_init, ⟨by decide, by decide, by decide +kernel⟩, Or.inr (by decide +kernel), m_mem 141 (by decide +kernel) rfl, rfl, rfl⟩
theorem wc_KilnBench_27 : Cond.classLink "KilnBench" 27 "KilnBench$Parser" ∈ m_w := m_mem 219 (by decide +kernel) rfl
theorem wi_KilnBench_Parser : Cond.instantiable "KilnBench$Parser" 4 ∈ m_w := m_mem 220 (by decide +kernel) rfl
theorem wn_KilnBench_Parser : Cond.initialized "KilnBench$Parser" ∈ m_w := m_mem 111 (by decide +kernel) rfl
theorem co_X6_init : m_co YX6_init := ⟨m_mem 223 (by decide +kernel) rfl, m_mem 111 (by decide +kernel) rfl, by decide⟩
theorem li_KilnBench_29 : m_LI "KilnBench" 29 YX6_init 1 := ⟨co_X6_init, ⟨by decide, by decide, by decide +kernel⟩, Or.inl (m_mem 221 (by decide +kernel) rfl), m_mem 222 (by decide +kernel) rfl, rfl, rfl⟩
theorem wc_KilnBench_36 : Cond.classLink "KilnBench" 36 "KilnBench$Laws" ∈ m_w := m_mem 328 (by decide +kernel) rfl
theorem wi_KilnBench_Laws : Cond.instantiable "KilnBench$Laws" 2 ∈ m_w := m_mem 329 (by decide +kernel) rfl
theorem wn_KilnBench_Laws : Cond.initialized "KilnBench$Laws" ∈ m_w := m_mem 117 (by decide +kernel) rfl
theorem co_X4_init : m_co YX4_init := ⟨m_mem 332 (by decide +kernel) rfl, m_mem 117 (by decide +kernel) rfl, by decide⟩
theorem li_KilnBench_38 : m_LI "KilnBench" 38 YX4_init 1 := ⟨co_X4_init, ⟨by decide, by decide, by decide +kernel⟩, Or.inl (m_mem 330 (by decide +kernel) rfl), m_mem 331 (by decide +kernel) rfl, rfl, rfl⟩
theorem wc_KilnBench_43 : Cond.classLink "KilnBench" 43 "KilnBench$Bench" ∈ m_w := m_mem 357 (by decide +kernel) rfl
theorem li_KilnBench_45 : m_LI "KilnBench" 45 YX0_init 0 := ⟨co_X0_init, ⟨by decide, by decide, by decide +kernel⟩, Or.inr (by decide +kernel), m_mem 360 (by decide +kernel) rfl, rfl, rfl⟩
theorem wc_KilnBench_53 : Cond.classLink "KilnBench" 53 "KilnBench$History" ∈ m_w := m_mem 417 (by decide +kernel) rfl
theorem wi_KilnBench_History : Cond.instantiable "KilnBench$History" 3 ∈ m_w := m_mem 418 (by decide +kernel) rfl
theorem wn_KilnBench_History : Cond.initialized "KilnBench$History" ∈ m_w := m_mem 120 (by decide +kernel) rfl
theorem co_X2_init : m_co YX2_init := ⟨m_mem 421 (by decide +kernel) rfl, m_mem 120 (by decide +kernel) rfl, by decide⟩
theorem li_KilnBench_55 : m_LI "KilnBench" 55 YX2_init 0 := ⟨co_X2_init, ⟨by decide, by decide, by decide +kernel⟩, Or.inl (m_mem 419 (by decide +kernel) rfl), m_mem 420 (by decide +kernel) rfl, rfl, rfl⟩
theorem wc_KilnBench_60 : Cond.classLink "KilnBench" 60 "KilnBench$BestSearch" ∈ m_w := m_mem 437 (by decide +kernel) rfl
theorem wi_KilnBench_BestSearch : Cond.instantiable "KilnBench$BestSearch" 13 ∈ m_w := m_mem 438 (by decide +kernel) rfl
theorem wn_KilnBench_BestSearch : Cond.initialized "KilnBench$BestSearch" ∈ m_w := m_mem 121 (by decide +kernel) rfl
theorem co_X1_init : m_co YX1_init := ⟨m_mem 441 (by decide +kernel) rfl, m_mem 121 (by decide +kernel) rfl, by decide⟩
theorem li_KilnBench_62 : m_LI "KilnBench" 62 YX1_init 1 := ⟨co_X1_init, ⟨by decide, by decide, by decide +kernel⟩, Or.inl (m_mem 439 (by decide +kernel) rfl), m_mem 440 (by decide +kernel) rfl, rfl, rfl⟩
theorem wc_KilnBench_69 : Cond.classLink "KilnBench" 69 "KilnBench$Sight" ∈ m_w := m_mem 486 (by decide +kernel) rfl
theorem wi_KilnBench_Sight : Cond.instantiable "KilnBench$Sight" 6 ∈ m_w := m_mem 487 (by decide +kernel) rfl
theorem wn_KilnBench_Sight : Cond.initialized "KilnBench$Sight" ∈ m_w := m_mem 122 (by decide +kernel) rfl
theorem co_X8_init : m_co YX8_init := ⟨m_mem 490 (by decide +kernel) rfl, m_mem 122 (by decide +kernel) rfl, by decide⟩
theorem li_KilnBench_71 : m_LI "KilnBench" 71 YX8_init 0 := ⟨co_X8_init, ⟨by decide, by decide, by decide +kernel⟩, Or.inr (by decide +kernel), m_mem 489 (by decide +kernel) rfl, rfl, rfl⟩
theorem wc_KilnBench_76 : Cond.classLink "KilnBench" 76 "KilnBench$Image" ∈ m_w := m_mem 515 (by decide +kernel) rfl
theorem wi_KilnBench_Image : Cond.instantiable "KilnBench$Image" 2 ∈ m_w := m_mem 516 (by decide +kernel) rfl
theorem wn_KilnBench_Image : Cond.initialized "KilnBench$Image" ∈ m_w := m_mem 123 (by decide +kernel) rfl
theorem co_X3_init : m_co YX3_init := ⟨m_mem 519 (by decide +kernel) rfl, m_mem 123 (by decide +kernel) rfl, by decide⟩
theorem li_KilnBench_78 : m_LI "KilnBench" 78 YX3_init 0 := ⟨co_X3_init, ⟨by decide, by decide, by decide +kernel⟩, Or.inr (by decide +kernel), m_mem 518 (by decide +kernel) rfl, rfl, rfl⟩
theorem i_begin {G : m_G} {d n : Nat} {μ : m_M} {K : Nat × Bool → m_M → Prop} (hZ : m_Zk G) (hn : 36 ≤ n) (hf : ∀ j, 2 ≤ j → j ≤ 8 → μ 10 0 j = 1000 + ((j + 1 : Nat) : Int)) (hK : ∀ μ1, (∀ a b c, ¬ a = 10 → μ1 a b c = μ a b c) → (∀ c, 2 ≤ c → c ≤ 8 → μ1 10 0 c = μ 10 0 c) → (μ1 10 0 0 = 0 ∧ μ1 10 0 1 = μ 32 0 7 ∧ μ1 10 0 9 = 0) → (∀ c, c < 8 → μ1 10 3 c = -1 ∧ μ1 10 4 c = -1 ∧ μ1 10 5 c = -1 ∧ μ1 10 6 c = 0 ∧ μ1 10 7 c = 0) → (∀ c, c < 3 → μ1 10 8 c = -1) → K (n, false) μ1) : m_Cv G (d + 1) 0 0 YX0_begin (n, false) [vR 10 0, vR 32 0] μ K := by
  have xE : ∀ w, w ≤ 9 → w = 0 ∨ 3 ≤ w → m_E.idxOf (10, w) < n := fun w h1 h2 => Nat.lt_of_lt_of_le ((by decide +kernel : ∀ w, w ≤ 9 → w = 0 ∨ 3 ≤ w → m_E.idxOf (10, w) < 36) w h1 h2) hn
  have xT : m_E.idxOf (32, 0) < n := Nat.lt_of_lt_of_le (by decide +kernel : m_E.idxOf (32, 0) < 36) hn
  refine m_enter (S := (n, false)) (by decide) (Nat.le_of_ble_eq_true rfl) hZ (fun X C R => ?_)
  show m_W G X YX0_begin (n, false, 0, 0) μ 0 [some (vR 10 0), some (vR 32 0)] []
  refine m_aload_n C dX0_begin_0 rfl ?_
  refine m_iconst C dX0_begin_1 (by unfold in32; omega) ?_
  refine m_putI C dX0_begin_2 fl_KilnBench_Bench_9 (Or.inr rfl) rfl (xE 0 (by decide) (by decide)) (Or.inr rfl) rfl ?_
  refine m_aload_n C dX0_begin_5 rfl ?_
  refine m_aload_n C dX0_begin_6 rfl ?_
  refine m_getI C dX0_begin_7 fl_KilnBench_Bench_43 rfl xT (Or.inl rfl) ?_
  refine m_putI C dX0_begin_10 fl_KilnBench_Bench_15 (Or.inr rfl) rfl (xE 0 (by decide) (by decide)) (Or.inr rfl) rfl ?_
  refine m_aload_n C dX0_begin_13 rfl ?_
  refine m_iconst C dX0_begin_14 (by unfold in32; omega) ?_
  refine m_putI C dX0_begin_15 fl_KilnBench_Bench_40 (Or.inr rfl) rfl (xE 0 (by decide) (by decide)) (Or.inr rfl) rfl ?_
  refine m_gen (fun ν0 e0 => ?_)
  have p0 : ν0 10 0 0 = 0 ∧ ν0 10 0 1 = μ 32 0 7 ∧ ν0 10 0 9 = 0 := by
    refine ⟨?_, ?_, ?_⟩
    · rw [e0, m_up_ne _ _ (by decide), m_up_ne _ _ (by decide), m_up_at]
    · rw [e0, m_up_ne _ _ (by decide), m_up_at, m_up_ne _ _ (by decide)]
    · rw [e0, m_up_at]
  have g0 : ∀ a b c, ¬ (a = 10 ∧ b = 0 ∧ (c = 0 ∨ c = 1 ∨ c = 9)) → ν0 a b c = μ a b c := fun a b c h => by rw [e0, m_up_ne _ _ (by omega), m_up_ne _ _ (by omega), m_up_ne _ _ (by omega)]
  clear e0
  refine m_aload_n C dX0_begin_18 rfl ?_
  refine m_getR (t := 10) (w := 3) C dX0_begin_19 fl_KilnBench_Bench_18 rfl (xE 0 (by decide) (by decide)) rfl (by rw [g0 10 0 2 (by omega)]; exact hf 2 (by decide) (by decide)) (by decide) (by decide) ?_
  refine m_iconst C dX0_begin_22 (by unfold in32; omega) ?_
  refine m_callSv (As := [vR 10 3, vI (-1)]) (st := []) (mc1 := 0) (ms1 := 0) (K := fun S1 μ1 => S1 = (n, false) ∧ μ1 = m_fl ν0 10 3 8 (-1)) C dX0_begin_23 ml_KilnBench_Bench_48 rfl rfl (by decide) (Nat.le_of_ble_eq_true rfl) (Nat.le_of_ble_eq_true rfl) (i_fill hZ (xE 3 (by decide) (by decide)) rfl (by decide) (by decide) ⟨rfl, rfl⟩) (fun S1 ν1 hk => ?_)
  obtain ⟨rfl, e1⟩ := hk
  refine m_aload_n C dX0_begin_26 rfl ?_
  refine m_getR (t := 10) (w := 4) C dX0_begin_27 fl_KilnBench_Bench_22 rfl (xE 0 (by decide) (by decide)) rfl (by rw [e1, fl_ne (by omega), g0 10 0 3 (by omega)]; exact hf 3 (by decide) (by decide)) (by decide) (by decide) ?_
  refine m_iconst C dX0_begin_30 (by unfold in32; omega) ?_
  refine m_callSv (As := [vR 10 4, vI (-1)]) (st := []) (mc1 := 0) (ms1 := 0) (K := fun S1 μ1 => S1 = (n, false) ∧ μ1 = m_fl ν1 10 4 8 (-1)) C dX0_begin_31 ml_KilnBench_Bench_48 rfl rfl (by decide) (Nat.le_of_ble_eq_true rfl) (Nat.le_of_ble_eq_true rfl) (i_fill hZ (xE 4 (by decide) (by decide)) rfl (by decide) (by decide) ⟨rfl, rfl⟩) (fun S1 ν2 hk => ?_)
  obtain ⟨rfl, e2⟩ := hk
  refine m_aload_n C dX0_begin_34 rfl ?_
  refine m_getR (t := 10) (w := 5) C dX0_begin_35 fl_KilnBench_Bench_25 rfl (xE 0 (by decide) (by decide)) rfl (by rw [e2, fl_ne (by omega), e1, fl_ne (by omega), g0 10 0 4 (by omega)]; exact hf 4 (by decide) (by decide)) (by decide) (by decide) ?_
  refine m_iconst C dX0_begin_38 (by unfold in32; omega) ?_
  refine m_callSv (As := [vR 10 5, vI (-1)]) (st := []) (mc1 := 0) (ms1 := 0) (K := fun S1 μ1 => S1 = (n, false) ∧ μ1 = m_fl ν2 10 5 8 (-1)) C dX0_begin_39 ml_KilnBench_Bench_48 rfl rfl (by decide) (Nat.le_of_ble_eq_true rfl) (Nat.le_of_ble_eq_true rfl) (i_fill hZ (xE 5 (by decide) (by decide)) rfl (by decide) (by decide) ⟨rfl, rfl⟩) (fun S1 ν3 hk => ?_)
  obtain ⟨rfl, e3⟩ := hk
  refine m_aload_n C dX0_begin_42 rfl ?_
  refine m_getR (t := 10) (w := 6) C dX0_begin_43 fl_KilnBench_Bench_28 rfl (xE 0 (by decide) (by decide)) rfl (by rw [e3, fl_ne (by omega), e2, fl_ne (by omega), e1, fl_ne (by omega), g0 10 0 5 (by omega)]; exact hf 5 (by decide) (by decide)) (by decide) (by decide) ?_
  refine m_iconst C dX0_begin_46 (by unfold in32; omega) ?_
  refine m_callSv (As := [vR 10 6, vI 0]) (st := []) (mc1 := 0) (ms1 := 0) (K := fun S1 μ1 => S1 = (n, false) ∧ μ1 = m_fl ν3 10 6 8 0) C dX0_begin_47 ml_KilnBench_Bench_48 rfl rfl (by decide) (Nat.le_of_ble_eq_true rfl) (Nat.le_of_ble_eq_true rfl) (i_fill hZ (xE 6 (by decide) (by decide)) rfl (by decide) (by decide) ⟨rfl, rfl⟩) (fun S1 ν4 hk => ?_)
  obtain ⟨rfl, e4⟩ := hk
  refine m_aload_n C dX0_begin_50 rfl ?_
  refine m_getR (t := 10) (w := 7) C dX0_begin_51 fl_KilnBench_Bench_31 rfl (xE 0 (by decide) (by decide)) rfl (by rw [e4, fl_ne (by omega), e3, fl_ne (by omega), e2, fl_ne (by omega), e1, fl_ne (by omega), g0 10 0 6 (by omega)]; exact hf 6 (by decide) (by decide)) (by decide) (by decide) ?_
  refine m_iconst C dX0_begin_54 (by unfold in32; omega) ?_
  refine m_callSv (As := [vR 10 7, vI 0]) (st := []) (mc1 := 0) (ms1 := 0) (K := fun S1 μ1 => S1 = (n, false) ∧ μ1 = m_fl ν4 10 7 8 0) C dX0_begin_55 ml_KilnBench_Bench_48 rfl rfl (by decide) (Nat.le_of_ble_eq_true rfl) (Nat.le_of_ble_eq_true rfl) (i_fill hZ (xE 7 (by decide) (by decide)) rfl (by decide) (by decide) ⟨rfl, rfl⟩) (fun S1 ν5 hk => ?_)
  obtain ⟨rfl, e5⟩ := hk
  refine m_aload_n C dX0_begin_58 rfl ?_
  refine m_getR (t := 10) (w := 8) C dX0_begin_59 fl_KilnBench_Bench_34 rfl (xE 0 (by decide) (by decide)) rfl (by rw [e5, fl_ne (by omega), e4, fl_ne (by omega), e3, fl_ne (by omega), e2, fl_ne (by omega), e1, fl_ne (by omega), g0 10 0 7 (by omega)]; exact hf 7 (by decide) (by decide)) (by decide) (by decide) ?_
  refine m_iconst C dX0_begin_62 (by unfold in32; omega) ?_
  refine m_callSv (As := [vR 10 8, vI (-1)]) (st := []) (mc1 := 0) (ms1 := 0) (K := fun S1 μ1 => S1 = (n, false) ∧ μ1 = m_fl ν5 10 8 3 (-1)) C dX0_begin_63 ml_KilnBench_Bench_48 rfl rfl (by decide) (Nat.le_of_ble_eq_true rfl) (Nat.le_of_ble_eq_true rfl) (i_fill hZ (xE 8 (by decide) (by decide)) rfl (by decide) (by decide) ⟨rfl, rfl⟩) (fun S1 ν6 hk => ?_)
  obtain ⟨rfl, e6⟩ := hk
  refine m_vret C R rfl dX0_begin_66 (Nat.le_refl _) (Nat.le_refl _) ?_
  have fr : ∀ a b c, ¬ (a = 10 ∧ 3 ≤ b ∧ b ≤ 8) → ν6 a b c = ν0 a b c := fun a b c h => by rw [e6, fl_ne (by omega), e5, fl_ne (by omega), e4, fl_ne (by omega), e3, fl_ne (by omega), e2, fl_ne (by omega), e1, fl_ne (by omega)]
  refine hK ν6 (fun a b c h => ?_) (fun c h1 h2 => ?_) ?_ (fun c hc => ⟨?_, ?_, ?_, ?_, ?_⟩) (fun c hc => ?_)
  · rw [fr a b c (by omega), g0 a b c (by omega)]
  · rw [fr 10 0 c (by omega), g0 10 0 c (by omega)]
  · rw [fr 10 0 0 (by omega), fr 10 0 1 (by omega), fr 10 0 9 (by omega)]; exact p0
  · rw [e6, fl_ne (by omega), e5, fl_ne (by omega), e4, fl_ne (by omega), e3, fl_ne (by omega), e2, fl_ne (by omega), e1, fl_in hc]
  · rw [e6, fl_ne (by omega), e5, fl_ne (by omega), e4, fl_ne (by omega), e3, fl_ne (by omega), e2, fl_in hc]
  · rw [e6, fl_ne (by omega), e5, fl_ne (by omega), e4, fl_ne (by omega), e3, fl_in hc]
  · rw [e6, fl_ne (by omega), e5, fl_ne (by omega), e4, fl_in hc]
  · rw [e6, fl_ne (by omega), e5, fl_in hc]
  · rw [e6, fl_in hc]
def L_X11_init : List Int := [100 * ((1 : Nat) : Int) + ((1 : Nat) : Int), 0, 100 * ((32 : Nat) : Int) + ((0 : Nat) : Int), 100 * ((33 : Nat) : Int) + ((0 : Nat) : Int), 100 * ((2 : Nat) : Int) + ((0 : Nat) : Int), 100 * ((4 : Nat) : Int) + ((0 : Nat) : Int), 100 * ((10 : Nat) : Int) + ((0 : Nat) : Int), 100 * ((11 : Nat) : Int) + ((0 : Nat) : Int), 100 * ((6 : Nat) : Int) + ((0 : Nat) : Int), 100 * ((7 : Nat) : Int) + ((0 : Nat) : Int), 100 * ((8 : Nat) : Int) + ((0 : Nat) : Int), 100 * ((9 : Nat) : Int) + ((0 : Nat) : Int), 100 * ((1 : Nat) : Int) + ((13 : Nat) : Int), 1, 0, -1]
/-- what stands when the class's constructor is through -/
def MFc (μ : m_M) : Prop := (∀ c, c < 16 → μ 1 0 c = L_X11_init.getD c 0) ∧ ((∀ c, c < 15 → μ 32 0 c = (L_X10_init 32).getD c 0) ∧ (∀ c, c < 15 → μ 33 0 c = (L_X10_init 33).getD c 0) ∧ (∀ c, c < 4 → μ 2 0 c = L_X6_init.getD c 0) ∧ (∀ c, c < 9 → μ 3 0 c = L_X7_init.getD c 0) ∧ (∀ c, c < 26 → μ 3 1 c = ownL.getD c 0) ∧ (∀ c, c < 2 → μ 4 0 c = L_X4_init.getD c 0) ∧ (∀ c, c < 2 → μ 5 0 c = L_X5_init.getD c 0) ∧ (∀ c, c < 10 → μ 11 0 c = (L_X0_init 11).getD c 0) ∧ (∀ c, c < 3 → μ 6 0 c = L_X2_init.getD c 0) ∧ (∀ c : Nat, c < 20 → μ 6 1 c = 1200 + 100 * (c : Int)) ∧ (∀ j, j < 20 → ∀ c, c < 10 → μ (12 + j) 0 c = (L_X0_init (12 + j)).getD c 0) ∧ (∀ c, c < 13 → μ 7 0 c = L_X1_init.getD c 0) ∧ (∀ c, c < 6 → μ 8 0 c = L_X8_init.getD c 0) ∧ (∀ c, c < 2 → μ 9 0 c = L_X3_init.getD c 0)) ∧ (μ 10 0 0 = 0 ∧ μ 10 0 1 = 0 ∧ μ 10 0 9 = 0 ∧ ∀ c, 2 ≤ c → c ≤ 8 → μ 10 0 c = 1000 + ((c + 1 : Nat) : Int)) ∧ (∀ c, c < 8 → μ 10 3 c = -1 ∧ μ 10 4 c = -1 ∧ μ 10 5 c = -1 ∧ μ 10 6 c = 0 ∧ μ 10 7 c = 0) ∧ (∀ c, c < 3 → μ 10 8 c = -1) ∧ ∀ a b c, ¬ (b = 0 ∧ 1 ≤ a ∧ a ≤ 33) → ¬ (a = 3 ∧ b = 1) → ¬ (a = 6 ∧ b = 1) → ¬ a = 10 → μ a b c = 0
set_option maxRecDepth 20000 in
theorem i_X11_init {G : m_G} {d aS aV : Nat} {vF : Value} {μ : m_M} {K : Nat × Bool → m_M → Prop} (hZ : m_Zk G) (hZe : G.2.2.2.2.2.1 = t_Z (m_A G) aS aV vF) (hvF : vF = .null ∨ ∃ a, vF = .ref a) (z : ∀ a b c, μ a b c = 0) (hK : ∀ μ1, MFc μ1 → K (218, false) μ1) : m_Cv G (d + 6) 217 7615 YX11_init (1, false) [vR 1 0] μ K := by
  refine m_enter (S := (1, false)) (by decide) (Nat.le_of_ble_eq_true rfl) hZ (fun X C R => ?_)
  show m_W G X YX11_init (1, false, 0, 0) μ 0 [some (vR 1 0)] []
  have z0 : ∀ a b c, ¬ (b = 0 ∧ (a = 1)) → μ a b c = 0 := fun a b c _ => z a b c
  rw [obF_of (μ := μ) (o := 1) (f := fun _ => 0) (z 1 0)]
  refine m_aload_n C dX11_init_0 rfl ?_
  refine m_objI C dX11_init_1 wo_KilnBench_1 wo_i wo_c (by decide) ?_
  refine m_aload_n C dX11_init_4 rfl ?_
  refine m_sipush C dX11_init_5 (by omega) ?_
  refine m_newa (a := 1) (len := 1600) (w := 1) C (by decide) dX11_init_8 wa_1 rfl (by decide) rfl (by decide) (fun j => by rw [obF_ne (fun q => absurd q.2 (by decide))]; exact z 1 1 j) (Nat.le_of_ble_eq_true rfl) (Nat.le_of_ble_eq_true rfl) ?_
  refine m_putR (t := 1) (w := 1) (x := 100 * ((1 : Nat) : Int) + ((1 : Nat) : Int)) C dX11_init_10 fl_KilnBench_9 (Or.inl ⟨rfl, rfl⟩) rfl (by decide +kernel) (Or.inr rfl) rfl rfl (by decide) (by decide) ?_
  rw [obF_up]
  refine m_aload_n C dX11_init_13 rfl ?_
  refine m_iconst C dX11_init_14 (by unfold in32; omega) ?_
  refine m_putI C dX11_init_15 fl_KilnBench_13 (Or.inl ⟨rfl, rfl⟩) rfl (by decide +kernel) (Or.inr rfl) rfl ?_
  rw [obF_up]
  refine m_aload_n C dX11_init_18 rfl ?_
  refine m_new (o := 32) C dX11_init_19 rfl wc_KilnBench_17 wi_KilnBench_Town wn_KilnBench_Town rfl (fun j => by rw [obF_ne (by omega)]; exact z0 32 0 j (by omega)) (Nat.le_of_ble_eq_true rfl) (Nat.le_of_ble_eq_true rfl) ?_
  refine m_dup C dX11_init_22 rfl ?_
  refine m_gen (fun ν1 hν1 => ?_)
  have zν1 : ∀ a b c, ¬ (b = 0 ∧ (a = 1)) → ν1 a b c = 0 := fun a b c h1  => by rw [hν1, obF_ne (by omega)]; exact z0 a b c h1 
  refine m_callI (As := []) (o := 32) (st := [vR 32 0, vR 1 0]) (mc1 := 8) (ms1 := 1638) (K := fun S1 μq => S1 = (11, false) ∧ (∀ a b c, ¬ (a = 32 ∧ b = 0) → μq a b c = ν1 a b c) ∧ (∀ c, c < 15 → μq 32 0 c = (L_X10_init 32).getD c 0)) C dX11_init_23 li_KilnBench_19 rfl rfl (by decide) (Nat.le_of_ble_eq_true rfl) (Nat.le_of_ble_eq_true rfl) (i_X10_init (o := 32) hZ rfl (by decide +kernel) rfl rfl rfl rfl rfl rfl rfl rfl (fun b c => by exact zν1 32 b c (by omega)) (fun μq f x0 => ⟨rfl, f, x0⟩)) (fun S1 μ1 hk => ?_)
  obtain ⟨rfl, fN, v32⟩ := hk
  have e1 := fun c => ((fN 1 0 c (by omega)).trans (by rw [hν1])).trans obF_at
  have z1 : ∀ a b c, ¬ (b = 0 ∧ (a = 1 ∨ a = 32)) → μ1 a b c = 0 := fun a b c h1  => by rw [fN a b c (by omega)]; exact zν1 a b c (by omega) 
  clear fN zν1
  rw [obF_of e1]
  refine m_putR (t := 32) (w := 0) (x := 100 * ((32 : Nat) : Int) + ((0 : Nat) : Int)) C dX11_init_26 fl_KilnBench_20 (Or.inl ⟨rfl, rfl⟩) rfl (by decide +kernel) (Or.inr rfl) rfl rfl (by decide) (by decide) ?_
  rw [obF_up]
  refine m_aload_n C dX11_init_29 rfl ?_
  refine m_new (o := 33) C dX11_init_30 rfl wc_KilnBench_17 wi_KilnBench_Town wn_KilnBench_Town rfl (fun j => by rw [obF_ne (by omega)]; exact z1 33 0 j (by omega)) (Nat.le_of_ble_eq_true rfl) (Nat.le_of_ble_eq_true rfl) ?_
  refine m_dup C dX11_init_33 rfl ?_
  refine m_gen (fun ν2 hν2 => ?_)
  have zν2 : ∀ a b c, ¬ (b = 0 ∧ (a = 1 ∨ a = 32)) → ν2 a b c = 0 := fun a b c h1  => by rw [hν2, obF_ne (by omega)]; exact z1 a b c h1 
  refine m_callI (As := []) (o := 33) (st := [vR 33 0, vR 1 0]) (mc1 := 8) (ms1 := 1638) (K := fun S1 μq => S1 = (20, false) ∧ (∀ a b c, ¬ (a = 33 ∧ b = 0) → μq a b c = ν2 a b c) ∧ (∀ c, c < 15 → μq 33 0 c = (L_X10_init 33).getD c 0)) C dX11_init_34 li_KilnBench_19 rfl rfl (by decide) (Nat.le_of_ble_eq_true rfl) (Nat.le_of_ble_eq_true rfl) (i_X10_init (o := 33) hZ rfl (by decide +kernel) rfl rfl rfl rfl rfl rfl rfl rfl (fun b c => by exact zν2 33 b c (by omega)) (fun μq f x0 => ⟨rfl, f, x0⟩)) (fun S1 μ2 hk => ?_)
  obtain ⟨rfl, fN, v33⟩ := hk
  have e1 := fun c => ((fN 1 0 c (by omega)).trans (by rw [hν2])).trans obF_at
  have z2 : ∀ a b c, ¬ (b = 0 ∧ (a = 1 ∨ a = 32 ∨ a = 33)) → μ2 a b c = 0 := fun a b c h1  => by rw [fN a b c (by omega)]; exact zν2 a b c (by omega) 
  have v32 : ∀ c, c < 15 → μ2 32 0 c = (L_X10_init 32).getD c 0 := fun c hc => by rw [fN 32 0 c (by omega), hν2, obF_ne (by omega)]; exact v32 c hc
  clear fN zν2
  rw [obF_of e1]
  refine m_putR (t := 33) (w := 0) (x := 100 * ((33 : Nat) : Int) + ((0 : Nat) : Int)) C dX11_init_37 fl_KilnBench_24 (Or.inl ⟨rfl, rfl⟩) rfl (by decide +kernel) (Or.inr rfl) rfl rfl (by decide) (by decide) ?_
  rw [obF_up]
  refine m_aload_n C dX11_init_40 rfl ?_
  refine m_new (o := 2) C dX11_init_41 rfl wc_KilnBench_27 wi_KilnBench_Parser wn_KilnBench_Parser rfl (fun j => by rw [obF_ne (by omega)]; exact z2 2 0 j (by omega)) (Nat.le_of_ble_eq_true rfl) (Nat.le_of_ble_eq_true rfl) ?_
  refine m_dup C dX11_init_44 rfl ?_
  refine m_aload_n C dX11_init_45 rfl ?_
  refine m_getR (t := 33) (w := 0) C dX11_init_46 fl_KilnBench_24 rfl (by decide +kernel) rfl (by rw [obF_at]; rfl) (by decide) (by decide) ?_
  refine m_gen (fun ν3 hν3 => ?_)
  have zν3 : ∀ a b c, ¬ (b = 0 ∧ (a = 1 ∨ a = 32 ∨ a = 33)) → ν3 a b c = 0 := fun a b c h1  => by rw [hν3, obF_ne (by omega)]; exact z2 a b c h1 
  refine m_callI (As := [vR 33 0]) (o := 2) (st := [vR 2 0, vR 1 0]) (mc1 := 3) (ms1 := 35) (K := fun S1 μq => S1 = (24, false) ∧ (∀ a b c, ¬ (a = 2 ∧ b = 0) → ¬ (a = 3 ∧ (b = 0 ∨ b = 1)) → μq a b c = ν3 a b c) ∧ (∀ c, c < 4 → μq 2 0 c = L_X6_init.getD c 0) ∧ (∀ c, c < 9 → μq 3 0 c = L_X7_init.getD c 0) ∧ (∀ c, c < 26 → μq 3 1 c = ownL.getD c 0)) C dX11_init_49 li_KilnBench_29 rfl rfl (by decide) (Nat.le_of_ble_eq_true rfl) (Nat.le_of_ble_eq_true rfl) (i_X6_init hZ hZe hvF (fun b c => by exact zν3 2 b c (by omega)) (fun b c => by exact zν3 3 b c (by omega)) (fun μq f x0 x1 x2 => ⟨rfl, f, x0, x1, x2⟩)) (fun S1 μ3 hk => ?_)
  obtain ⟨rfl, fN, v2, v3, w3⟩ := hk
  have e1 := fun c => ((fN 1 0 c (by omega) (by omega)).trans (by rw [hν3])).trans obF_at
  have z3 : ∀ a b c, ¬ (b = 0 ∧ (a = 1 ∨ a = 32 ∨ a = 33 ∨ a = 2 ∨ a = 3)) → ¬ (a = 3 ∧ b = 1) → μ3 a b c = 0 := fun a b c h1 h2 => by rw [fN a b c (by omega) (by omega)]; exact zν3 a b c (by omega) 
  have v32 : ∀ c, c < 15 → μ3 32 0 c = (L_X10_init 32).getD c 0 := fun c hc => by rw [fN 32 0 c (by omega) (by omega), hν3, obF_ne (by omega)]; exact v32 c hc
  have v33 : ∀ c, c < 15 → μ3 33 0 c = (L_X10_init 33).getD c 0 := fun c hc => by rw [fN 33 0 c (by omega) (by omega), hν3, obF_ne (by omega)]; exact v33 c hc
  clear fN zν3
  rw [obF_of e1]
  refine m_putR (t := 2) (w := 0) (x := 100 * ((2 : Nat) : Int) + ((0 : Nat) : Int)) C dX11_init_52 fl_KilnBench_32 (Or.inl ⟨rfl, rfl⟩) rfl (by decide +kernel) (Or.inr rfl) rfl rfl (by decide) (by decide) ?_
  rw [obF_up]
  refine m_aload_n C dX11_init_55 rfl ?_
  refine m_new (o := 4) C dX11_init_56 rfl wc_KilnBench_36 wi_KilnBench_Laws wn_KilnBench_Laws rfl (fun j => by rw [obF_ne (by omega)]; exact z3 4 0 j (by omega) (by omega)) (Nat.le_of_ble_eq_true rfl) (Nat.le_of_ble_eq_true rfl) ?_
  refine m_dup C dX11_init_59 rfl ?_
  refine m_aload_n C dX11_init_60 rfl ?_
  refine m_getR (t := 32) (w := 0) C dX11_init_61 fl_KilnBench_20 rfl (by decide +kernel) rfl (by rw [obF_at]; rfl) (by decide) (by decide) ?_
  refine m_gen (fun ν4 hν4 => ?_)
  have zν4 : ∀ a b c, ¬ (b = 0 ∧ (a = 1 ∨ a = 32 ∨ a = 33 ∨ a = 2 ∨ a = 3)) → ¬ (a = 3 ∧ b = 1) → ν4 a b c = 0 := fun a b c h1 h2 => by rw [hν4, obF_ne (by omega)]; exact z3 a b c h1 h2
  refine m_callI (As := [vR 32 0]) (o := 4) (st := [vR 4 0, vR 1 0]) (mc1 := 3) (ms1 := 92) (K := fun S1 μq => S1 = (28, false) ∧ (∀ a b c, ¬ ((a = 4 ∨ a = 5) ∧ b = 0) → μq a b c = ν4 a b c) ∧ (∀ c, c < 2 → μq 4 0 c = L_X4_init.getD c 0) ∧ (∀ c, c < 2 → μq 5 0 c = L_X5_init.getD c 0)) C dX11_init_64 li_KilnBench_38 rfl rfl (by decide) (Nat.le_of_ble_eq_true rfl) (Nat.le_of_ble_eq_true rfl) (i_X4_init hZ (fun b c => by exact zν4 4 b c (by omega) (by omega)) (fun b c => by exact zν4 5 b c (by omega) (by omega)) (fun μq f x0 x1 => ⟨rfl, f, x0, x1⟩)) (fun S1 μ4 hk => ?_)
  obtain ⟨rfl, fN, v4, v5⟩ := hk
  have e1 := fun c => ((fN 1 0 c (by omega)).trans (by rw [hν4])).trans obF_at
  have z4 : ∀ a b c, ¬ (b = 0 ∧ (a = 1 ∨ a = 32 ∨ a = 33 ∨ a = 2 ∨ a = 3 ∨ a = 4 ∨ a = 5)) → ¬ (a = 3 ∧ b = 1) → μ4 a b c = 0 := fun a b c h1 h2 => by rw [fN a b c (by omega)]; exact zν4 a b c (by omega) h2
  have v32 : ∀ c, c < 15 → μ4 32 0 c = (L_X10_init 32).getD c 0 := fun c hc => by rw [fN 32 0 c (by omega), hν4, obF_ne (by omega)]; exact v32 c hc
  have v33 : ∀ c, c < 15 → μ4 33 0 c = (L_X10_init 33).getD c 0 := fun c hc => by rw [fN 33 0 c (by omega), hν4, obF_ne (by omega)]; exact v33 c hc
  have v2 : ∀ c, c < 4 → μ4 2 0 c = L_X6_init.getD c 0 := fun c hc => by rw [fN 2 0 c (by omega), hν4, obF_ne (by omega)]; exact v2 c hc
  have v3 : ∀ c, c < 9 → μ4 3 0 c = L_X7_init.getD c 0 := fun c hc => by rw [fN 3 0 c (by omega), hν4, obF_ne (by omega)]; exact v3 c hc
  have w3 : ∀ c, c < 26 → μ4 3 1 c = ownL.getD c 0 := fun c hc => by rw [fN 3 1 c (by omega), hν4, obF_ne (by omega)]; exact w3 c hc
  clear fN zν4
  rw [obF_of e1]
  refine m_putR (t := 4) (w := 0) (x := 100 * ((4 : Nat) : Int) + ((0 : Nat) : Int)) C dX11_init_67 fl_KilnBench_39 (Or.inl ⟨rfl, rfl⟩) rfl (by decide +kernel) (Or.inr rfl) rfl rfl (by decide) (by decide) ?_
  rw [obF_up]
  refine m_aload_n C dX11_init_70 rfl ?_
  refine m_new (o := 10) C dX11_init_71 rfl wc_KilnBench_43 wi_KilnBench_Bench wn_KilnBench_Bench rfl (fun j => by rw [obF_ne (by omega)]; exact z4 10 0 j (by omega) (by omega)) (Nat.le_of_ble_eq_true rfl) (Nat.le_of_ble_eq_true rfl) ?_
  refine m_dup C dX11_init_74 rfl ?_
  refine m_gen (fun ν5 hν5 => ?_)
  have zν5 : ∀ a b c, ¬ (b = 0 ∧ (a = 1 ∨ a = 32 ∨ a = 33 ∨ a = 2 ∨ a = 3 ∨ a = 4 ∨ a = 5)) → ¬ (a = 3 ∧ b = 1) → ν5 a b c = 0 := fun a b c h1 h2 => by rw [hν5, obF_ne (by omega)]; exact z4 a b c h1 h2
  refine m_callI (As := []) (o := 10) (st := [vR 10 0, vR 1 0]) (mc1 := 7) (ms1 := 75) (K := fun S1 μq => S1 = (36, false) ∧ (∀ a b c, ¬ (a = 10 ∧ b = 0) → μq a b c = ν5 a b c) ∧ (∀ c, c < 10 → μq 10 0 c = (L_X0_init 10).getD c 0)) C dX11_init_75 li_KilnBench_45 rfl rfl (by decide) (Nat.le_of_ble_eq_true rfl) (Nat.le_of_ble_eq_true rfl) (i_X0_init (o := 10) hZ rfl (by decide +kernel) rfl rfl rfl rfl rfl rfl rfl (fun b c => by exact zν5 10 b c (by omega) (by omega)) (fun μq f x0 => ⟨rfl, f, x0⟩)) (fun S1 μ5 hk => ?_)
  obtain ⟨rfl, fN, v10⟩ := hk
  have e1 := fun c => ((fN 1 0 c (by omega)).trans (by rw [hν5])).trans obF_at
  have z5 : ∀ a b c, ¬ (b = 0 ∧ (a = 1 ∨ a = 32 ∨ a = 33 ∨ a = 2 ∨ a = 3 ∨ a = 4 ∨ a = 5 ∨ a = 10)) → ¬ (a = 3 ∧ b = 1) → μ5 a b c = 0 := fun a b c h1 h2 => by rw [fN a b c (by omega)]; exact zν5 a b c (by omega) h2
  have v32 : ∀ c, c < 15 → μ5 32 0 c = (L_X10_init 32).getD c 0 := fun c hc => by rw [fN 32 0 c (by omega), hν5, obF_ne (by omega)]; exact v32 c hc
  have v33 : ∀ c, c < 15 → μ5 33 0 c = (L_X10_init 33).getD c 0 := fun c hc => by rw [fN 33 0 c (by omega), hν5, obF_ne (by omega)]; exact v33 c hc
  have v2 : ∀ c, c < 4 → μ5 2 0 c = L_X6_init.getD c 0 := fun c hc => by rw [fN 2 0 c (by omega), hν5, obF_ne (by omega)]; exact v2 c hc
  have v3 : ∀ c, c < 9 → μ5 3 0 c = L_X7_init.getD c 0 := fun c hc => by rw [fN 3 0 c (by omega), hν5, obF_ne (by omega)]; exact v3 c hc
  have w3 : ∀ c, c < 26 → μ5 3 1 c = ownL.getD c 0 := fun c hc => by rw [fN 3 1 c (by omega), hν5, obF_ne (by omega)]; exact w3 c hc
  have v4 : ∀ c, c < 2 → μ5 4 0 c = L_X4_init.getD c 0 := fun c hc => by rw [fN 4 0 c (by omega), hν5, obF_ne (by omega)]; exact v4 c hc
  have v5 : ∀ c, c < 2 → μ5 5 0 c = L_X5_init.getD c 0 := fun c hc => by rw [fN 5 0 c (by omega), hν5, obF_ne (by omega)]; exact v5 c hc
  clear fN zν5
  rw [obF_of e1]
  refine m_putR (t := 10) (w := 0) (x := 100 * ((10 : Nat) : Int) + ((0 : Nat) : Int)) C dX11_init_78 fl_KilnBench_46 (Or.inl ⟨rfl, rfl⟩) rfl (by decide +kernel) (Or.inr rfl) rfl rfl (by decide) (by decide) ?_
  rw [obF_up]
  refine m_aload_n C dX11_init_81 rfl ?_
  refine m_new (o := 11) C dX11_init_82 rfl wc_KilnBench_43 wi_KilnBench_Bench wn_KilnBench_Bench rfl (fun j => by rw [obF_ne (by omega)]; exact z5 11 0 j (by omega) (by omega)) (Nat.le_of_ble_eq_true rfl) (Nat.le_of_ble_eq_true rfl) ?_
  refine m_dup C dX11_init_85 rfl ?_
  refine m_gen (fun ν6 hν6 => ?_)
  have zν6 : ∀ a b c, ¬ (b = 0 ∧ (a = 1 ∨ a = 32 ∨ a = 33 ∨ a = 2 ∨ a = 3 ∨ a = 4 ∨ a = 5 ∨ a = 10)) → ¬ (a = 3 ∧ b = 1) → ν6 a b c = 0 := fun a b c h1 h2 => by rw [hν6, obF_ne (by omega)]; exact z5 a b c h1 h2
  refine m_callI (As := []) (o := 11) (st := [vR 11 0, vR 1 0]) (mc1 := 7) (ms1 := 75) (K := fun S1 μq => S1 = (44, false) ∧ (∀ a b c, ¬ (a = 11 ∧ b = 0) → μq a b c = ν6 a b c) ∧ (∀ c, c < 10 → μq 11 0 c = (L_X0_init 11).getD c 0)) C dX11_init_86 li_KilnBench_45 rfl rfl (by decide) (Nat.le_of_ble_eq_true rfl) (Nat.le_of_ble_eq_true rfl) (i_X0_init (o := 11) hZ rfl (by decide +kernel) rfl rfl rfl rfl rfl rfl rfl (fun b c => by exact zν6 11 b c (by omega) (by omega)) (fun μq f x0 => ⟨rfl, f, x0⟩)) (fun S1 μ6 hk => ?_)
  obtain ⟨rfl, fN, v11⟩ := hk
  have e1 := fun c => ((fN 1 0 c (by omega)).trans (by rw [hν6])).trans obF_at
  have z6 : ∀ a b c, ¬ (b = 0 ∧ (a = 1 ∨ a = 32 ∨ a = 33 ∨ a = 2 ∨ a = 3 ∨ a = 4 ∨ a = 5 ∨ a = 10 ∨ a = 11)) → ¬ (a = 3 ∧ b = 1) → μ6 a b c = 0 := fun a b c h1 h2 => by rw [fN a b c (by omega)]; exact zν6 a b c (by omega) h2
  have v32 : ∀ c, c < 15 → μ6 32 0 c = (L_X10_init 32).getD c 0 := fun c hc => by rw [fN 32 0 c (by omega), hν6, obF_ne (by omega)]; exact v32 c hc
  have v33 : ∀ c, c < 15 → μ6 33 0 c = (L_X10_init 33).getD c 0 := fun c hc => by rw [fN 33 0 c (by omega), hν6, obF_ne (by omega)]; exact v33 c hc
  have v2 : ∀ c, c < 4 → μ6 2 0 c = L_X6_init.getD c 0 := fun c hc => by rw [fN 2 0 c (by omega), hν6, obF_ne (by omega)]; exact v2 c hc
  have v3 : ∀ c, c < 9 → μ6 3 0 c = L_X7_init.getD c 0 := fun c hc => by rw [fN 3 0 c (by omega), hν6, obF_ne (by omega)]; exact v3 c hc
  have w3 : ∀ c, c < 26 → μ6 3 1 c = ownL.getD c 0 := fun c hc => by rw [fN 3 1 c (by omega), hν6, obF_ne (by omega)]; exact w3 c hc
  have v4 : ∀ c, c < 2 → μ6 4 0 c = L_X4_init.getD c 0 := fun c hc => by rw [fN 4 0 c (by omega), hν6, obF_ne (by omega)]; exact v4 c hc
  have v5 : ∀ c, c < 2 → μ6 5 0 c = L_X5_init.getD c 0 := fun c hc => by rw [fN 5 0 c (by omega), hν6, obF_ne (by omega)]; exact v5 c hc
  have v10 : ∀ c, c < 10 → μ6 10 0 c = (L_X0_init 10).getD c 0 := fun c hc => by rw [fN 10 0 c (by omega), hν6, obF_ne (by omega)]; exact v10 c hc
  clear fN zν6
  rw [obF_of e1]
  refine m_putR (t := 11) (w := 0) (x := 100 * ((11 : Nat) : Int) + ((0 : Nat) : Int)) C dX11_init_89 fl_KilnBench_50 (Or.inl ⟨rfl, rfl⟩) rfl (by decide +kernel) (Or.inr rfl) rfl rfl (by decide) (by decide) ?_
  rw [obF_up]
  refine m_aload_n C dX11_init_92 rfl ?_
  refine m_new (o := 6) C dX11_init_93 rfl wc_KilnBench_53 wi_KilnBench_History wn_KilnBench_History rfl (fun j => by rw [obF_ne (by omega)]; exact z6 6 0 j (by omega) (by omega)) (Nat.le_of_ble_eq_true rfl) (Nat.le_of_ble_eq_true rfl) ?_
  refine m_dup C dX11_init_96 rfl ?_
  refine m_gen (fun ν7 hν7 => ?_)
  have zν7 : ∀ a b c, ¬ (b = 0 ∧ (a = 1 ∨ a = 32 ∨ a = 33 ∨ a = 2 ∨ a = 3 ∨ a = 4 ∨ a = 5 ∨ a = 10 ∨ a = 11)) → ¬ (a = 3 ∧ b = 1) → ν7 a b c = 0 := fun a b c h1 h2 => by rw [hν7, obF_ne (by omega)]; exact z6 a b c h1 h2
  refine m_callI (As := []) (o := 6) (st := [vR 6 0, vR 1 0]) (mc1 := 161) (ms1 := 1720) (K := fun S1 μq => S1 = (206, false) ∧ (∀ a b c, ¬ (a = 6 ∧ (b = 0 ∨ b = 1)) → ¬ (12 ≤ a ∧ a < 32 ∧ b = 0) → μq a b c = ν7 a b c) ∧ (∀ c, c < 3 → μq 6 0 c = L_X2_init.getD c 0) ∧ (∀ c : Nat, c < 20 → μq 6 1 c = 1200 + 100 * (c : Int)) ∧ (∀ j, j < 20 → ∀ c, c < 10 → μq (12 + j) 0 c = (L_X0_init (12 + j)).getD c 0)) C dX11_init_97 li_KilnBench_55 rfl rfl (by decide) (Nat.le_of_ble_eq_true rfl) (Nat.le_of_ble_eq_true rfl) (i_X2_init hZ (fun b c => by exact zν7 6 b c (by omega) (by omega)) (fun a b c h1 h2 => by exact zν7 a b c (by omega) (by omega)) (fun μq f x0 x1 x2 => ⟨rfl, f, x0, x1, x2⟩)) (fun S1 μ7 hk => ?_)
  obtain ⟨rfl, fN, v6, w6, vp⟩ := hk
  have e1 := fun c => ((fN 1 0 c (by omega) (by omega)).trans (by rw [hν7])).trans obF_at
  have z7 : ∀ a b c, ¬ (b = 0 ∧ (a = 1 ∨ a = 32 ∨ a = 33 ∨ a = 2 ∨ a = 3 ∨ a = 4 ∨ a = 5 ∨ a = 10 ∨ a = 11 ∨ a = 6 ∨ (12 ≤ a ∧ a < 32))) → ¬ (a = 3 ∧ b = 1) → ¬ (a = 6 ∧ b = 1) → μ7 a b c = 0 := fun a b c h1 h2 h3 => by rw [fN a b c (by omega) (by omega)]; exact zν7 a b c (by omega) h2
  have v32 : ∀ c, c < 15 → μ7 32 0 c = (L_X10_init 32).getD c 0 := fun c hc => by rw [fN 32 0 c (by omega) (by omega), hν7, obF_ne (by omega)]; exact v32 c hc
  have v33 : ∀ c, c < 15 → μ7 33 0 c = (L_X10_init 33).getD c 0 := fun c hc => by rw [fN 33 0 c (by omega) (by omega), hν7, obF_ne (by omega)]; exact v33 c hc
  have v2 : ∀ c, c < 4 → μ7 2 0 c = L_X6_init.getD c 0 := fun c hc => by rw [fN 2 0 c (by omega) (by omega), hν7, obF_ne (by omega)]; exact v2 c hc
  have v3 : ∀ c, c < 9 → μ7 3 0 c = L_X7_init.getD c 0 := fun c hc => by rw [fN 3 0 c (by omega) (by omega), hν7, obF_ne (by omega)]; exact v3 c hc
  have w3 : ∀ c, c < 26 → μ7 3 1 c = ownL.getD c 0 := fun c hc => by rw [fN 3 1 c (by omega) (by omega), hν7, obF_ne (by omega)]; exact w3 c hc
  have v4 : ∀ c, c < 2 → μ7 4 0 c = L_X4_init.getD c 0 := fun c hc => by rw [fN 4 0 c (by omega) (by omega), hν7, obF_ne (by omega)]; exact v4 c hc
  have v5 : ∀ c, c < 2 → μ7 5 0 c = L_X5_init.getD c 0 := fun c hc => by rw [fN 5 0 c (by omega) (by omega), hν7, obF_ne (by omega)]; exact v5 c hc
  have v10 : ∀ c, c < 10 → μ7 10 0 c = (L_X0_init 10).getD c 0 := fun c hc => by rw [fN 10 0 c (by omega) (by omega), hν7, obF_ne (by omega)]; exact v10 c hc
  have v11 : ∀ c, c < 10 → μ7 11 0 c = (L_X0_init 11).getD c 0 := fun c hc => by rw [fN 11 0 c (by omega) (by omega), hν7, obF_ne (by omega)]; exact v11 c hc
  clear fN zν7
  rw [obF_of e1]
  refine m_putR (t := 6) (w := 0) (x := 100 * ((6 : Nat) : Int) + ((0 : Nat) : Int)) C dX11_init_100 fl_KilnBench_56 (Or.inl ⟨rfl, rfl⟩) rfl (by decide +kernel) (Or.inr rfl) rfl rfl (by decide) (by decide) ?_
  rw [obF_up]
  refine m_aload_n C dX11_init_103 rfl ?_
  refine m_new (o := 7) C dX11_init_104 rfl wc_KilnBench_60 wi_KilnBench_BestSearch wn_KilnBench_BestSearch rfl (fun j => by rw [obF_ne (by omega)]; exact z7 7 0 j (by omega) (by omega) (by omega)) (Nat.le_of_ble_eq_true rfl) (Nat.le_of_ble_eq_true rfl) ?_
  refine m_dup C dX11_init_107 rfl ?_
  refine m_aload_n C dX11_init_108 rfl ?_
  refine m_getR (t := 4) (w := 0) C dX11_init_109 fl_KilnBench_39 rfl (by decide +kernel) rfl (by rw [obF_at]; rfl) (by decide) (by decide) ?_
  refine m_gen (fun ν8 hν8 => ?_)
  have zν8 : ∀ a b c, ¬ (b = 0 ∧ (a = 1 ∨ a = 32 ∨ a = 33 ∨ a = 2 ∨ a = 3 ∨ a = 4 ∨ a = 5 ∨ a = 10 ∨ a = 11 ∨ a = 6 ∨ (12 ≤ a ∧ a < 32))) → ¬ (a = 3 ∧ b = 1) → ¬ (a = 6 ∧ b = 1) → ν8 a b c = 0 := fun a b c h1 h2 h3 => by rw [hν8, obF_ne (by omega)]; exact z7 a b c h1 h2 h3
  refine m_callI (As := [vR 4 0]) (o := 7) (st := [vR 7 0, vR 1 0]) (mc1 := 5) (ms1 := 452) (K := fun S1 μq => S1 = (212, false) ∧ (∀ a b c, ¬ (a = 7 ∧ b = 0) → μq a b c = ν8 a b c) ∧ (∀ c, c < 13 → μq 7 0 c = L_X1_init.getD c 0)) C dX11_init_112 li_KilnBench_62 rfl rfl (by decide) (Nat.le_of_ble_eq_true rfl) (Nat.le_of_ble_eq_true rfl) (i_X1_init hZ (fun b c => by exact zν8 7 b c (by omega) (by omega) (by omega)) (fun μq f x0 => ⟨rfl, f, x0⟩)) (fun S1 μ8 hk => ?_)
  obtain ⟨rfl, fN, v7⟩ := hk
  have e1 := fun c => ((fN 1 0 c (by omega)).trans (by rw [hν8])).trans obF_at
  have z8 : ∀ a b c, ¬ (b = 0 ∧ (a = 1 ∨ a = 32 ∨ a = 33 ∨ a = 2 ∨ a = 3 ∨ a = 4 ∨ a = 5 ∨ a = 10 ∨ a = 11 ∨ a = 6 ∨ (12 ≤ a ∧ a < 32) ∨ a = 7)) → ¬ (a = 3 ∧ b = 1) → ¬ (a = 6 ∧ b = 1) → μ8 a b c = 0 := fun a b c h1 h2 h3 => by rw [fN a b c (by omega)]; exact zν8 a b c (by omega) h2 h3
  have v32 : ∀ c, c < 15 → μ8 32 0 c = (L_X10_init 32).getD c 0 := fun c hc => by rw [fN 32 0 c (by omega), hν8, obF_ne (by omega)]; exact v32 c hc
  have v33 : ∀ c, c < 15 → μ8 33 0 c = (L_X10_init 33).getD c 0 := fun c hc => by rw [fN 33 0 c (by omega), hν8, obF_ne (by omega)]; exact v33 c hc
  have v2 : ∀ c, c < 4 → μ8 2 0 c = L_X6_init.getD c 0 := fun c hc => by rw [fN 2 0 c (by omega), hν8, obF_ne (by omega)]; exact v2 c hc
  have v3 : ∀ c, c < 9 → μ8 3 0 c = L_X7_init.getD c 0 := fun c hc => by rw [fN 3 0 c (by omega), hν8, obF_ne (by omega)]; exact v3 c hc
  have w3 : ∀ c, c < 26 → μ8 3 1 c = ownL.getD c 0 := fun c hc => by rw [fN 3 1 c (by omega), hν8, obF_ne (by omega)]; exact w3 c hc
  have v4 : ∀ c, c < 2 → μ8 4 0 c = L_X4_init.getD c 0 := fun c hc => by rw [fN 4 0 c (by omega), hν8, obF_ne (by omega)]; exact v4 c hc
  have v5 : ∀ c, c < 2 → μ8 5 0 c = L_X5_init.getD c 0 := fun c hc => by rw [fN 5 0 c (by omega), hν8, obF_ne (by omega)]; exact v5 c hc
  have v10 : ∀ c, c < 10 → μ8 10 0 c = (L_X0_init 10).getD c 0 := fun c hc => by rw [fN 10 0 c (by omega), hν8, obF_ne (by omega)]; exact v10 c hc
  have v11 : ∀ c, c < 10 → μ8 11 0 c = (L_X0_init 11).getD c 0 := fun c hc => by rw [fN 11 0 c (by omega), hν8, obF_ne (by omega)]; exact v11 c hc
  have v6 : ∀ c, c < 3 → μ8 6 0 c = L_X2_init.getD c 0 := fun c hc => by rw [fN 6 0 c (by omega), hν8, obF_ne (by omega)]; exact v6 c hc
  have w6 : ∀ c : Nat, c < 20 → μ8 6 1 c = 1200 + 100 * (c : Int) := fun c hc => by rw [fN 6 1 c (by omega), hν8, obF_ne (by omega)]; exact w6 c hc
  have vp : ∀ j, j < 20 → ∀ c, c < 10 → μ8 (12 + j) 0 c = (L_X0_init (12 + j)).getD c 0 := fun j hj c hc => by rw [fN (12 + j) 0 c (by omega), hν8, obF_ne (by omega)]; exact vp j hj c hc
  clear fN zν8
  rw [obF_of e1]
  refine m_putR (t := 7) (w := 0) (x := 100 * ((7 : Nat) : Int) + ((0 : Nat) : Int)) C dX11_init_115 fl_KilnBench_65 (Or.inl ⟨rfl, rfl⟩) rfl (by decide +kernel) (Or.inr rfl) rfl rfl (by decide) (by decide) ?_
  rw [obF_up]
  refine m_aload_n C dX11_init_118 rfl ?_
  refine m_new (o := 8) C dX11_init_119 rfl wc_KilnBench_69 wi_KilnBench_Sight wn_KilnBench_Sight rfl (fun j => by rw [obF_ne (by omega)]; exact z8 8 0 j (by omega) (by omega) (by omega)) (Nat.le_of_ble_eq_true rfl) (Nat.le_of_ble_eq_true rfl) ?_
  refine m_dup C dX11_init_122 rfl ?_
  refine m_gen (fun ν9 hν9 => ?_)
  have zν9 : ∀ a b c, ¬ (b = 0 ∧ (a = 1 ∨ a = 32 ∨ a = 33 ∨ a = 2 ∨ a = 3 ∨ a = 4 ∨ a = 5 ∨ a = 10 ∨ a = 11 ∨ a = 6 ∨ (12 ≤ a ∧ a < 32) ∨ a = 7)) → ¬ (a = 3 ∧ b = 1) → ¬ (a = 6 ∧ b = 1) → ν9 a b c = 0 := fun a b c h1 h2 h3 => by rw [hν9, obF_ne (by omega)]; exact z8 a b c h1 h2 h3
  refine m_callI (As := []) (o := 8) (st := [vR 8 0, vR 1 0]) (mc1 := 2) (ms1 := 148) (K := fun S1 μq => S1 = (215, false) ∧ (∀ a b c, ¬ (a = 8 ∧ b = 0) → μq a b c = ν9 a b c) ∧ (∀ c, c < 6 → μq 8 0 c = L_X8_init.getD c 0)) C dX11_init_123 li_KilnBench_71 rfl rfl (by decide) (Nat.le_of_ble_eq_true rfl) (Nat.le_of_ble_eq_true rfl) (i_X8_init hZ (fun b c => by exact zν9 8 b c (by omega) (by omega) (by omega)) (fun μq f x0 => ⟨rfl, f, x0⟩)) (fun S1 μ9 hk => ?_)
  obtain ⟨rfl, fN, v8⟩ := hk
  have e1 := fun c => ((fN 1 0 c (by omega)).trans (by rw [hν9])).trans obF_at
  have z9 : ∀ a b c, ¬ (b = 0 ∧ (a = 1 ∨ a = 32 ∨ a = 33 ∨ a = 2 ∨ a = 3 ∨ a = 4 ∨ a = 5 ∨ a = 10 ∨ a = 11 ∨ a = 6 ∨ (12 ≤ a ∧ a < 32) ∨ a = 7 ∨ a = 8)) → ¬ (a = 3 ∧ b = 1) → ¬ (a = 6 ∧ b = 1) → μ9 a b c = 0 := fun a b c h1 h2 h3 => by rw [fN a b c (by omega)]; exact zν9 a b c (by omega) h2 h3
  have v32 : ∀ c, c < 15 → μ9 32 0 c = (L_X10_init 32).getD c 0 := fun c hc => by rw [fN 32 0 c (by omega), hν9, obF_ne (by omega)]; exact v32 c hc
  have v33 : ∀ c, c < 15 → μ9 33 0 c = (L_X10_init 33).getD c 0 := fun c hc => by rw [fN 33 0 c (by omega), hν9, obF_ne (by omega)]; exact v33 c hc
  have v2 : ∀ c, c < 4 → μ9 2 0 c = L_X6_init.getD c 0 := fun c hc => by rw [fN 2 0 c (by omega), hν9, obF_ne (by omega)]; exact v2 c hc
  have v3 : ∀ c, c < 9 → μ9 3 0 c = L_X7_init.getD c 0 := fun c hc => by rw [fN 3 0 c (by omega), hν9, obF_ne (by omega)]; exact v3 c hc
  have w3 : ∀ c, c < 26 → μ9 3 1 c = ownL.getD c 0 := fun c hc => by rw [fN 3 1 c (by omega), hν9, obF_ne (by omega)]; exact w3 c hc
  have v4 : ∀ c, c < 2 → μ9 4 0 c = L_X4_init.getD c 0 := fun c hc => by rw [fN 4 0 c (by omega), hν9, obF_ne (by omega)]; exact v4 c hc
  have v5 : ∀ c, c < 2 → μ9 5 0 c = L_X5_init.getD c 0 := fun c hc => by rw [fN 5 0 c (by omega), hν9, obF_ne (by omega)]; exact v5 c hc
  have v10 : ∀ c, c < 10 → μ9 10 0 c = (L_X0_init 10).getD c 0 := fun c hc => by rw [fN 10 0 c (by omega), hν9, obF_ne (by omega)]; exact v10 c hc
  have v11 : ∀ c, c < 10 → μ9 11 0 c = (L_X0_init 11).getD c 0 := fun c hc => by rw [fN 11 0 c (by omega), hν9, obF_ne (by omega)]; exact v11 c hc
  have v6 : ∀ c, c < 3 → μ9 6 0 c = L_X2_init.getD c 0 := fun c hc => by rw [fN 6 0 c (by omega), hν9, obF_ne (by omega)]; exact v6 c hc
  have w6 : ∀ c : Nat, c < 20 → μ9 6 1 c = 1200 + 100 * (c : Int) := fun c hc => by rw [fN 6 1 c (by omega), hν9, obF_ne (by omega)]; exact w6 c hc
  have vp : ∀ j, j < 20 → ∀ c, c < 10 → μ9 (12 + j) 0 c = (L_X0_init (12 + j)).getD c 0 := fun j hj c hc => by rw [fN (12 + j) 0 c (by omega), hν9, obF_ne (by omega)]; exact vp j hj c hc
  have v7 : ∀ c, c < 13 → μ9 7 0 c = L_X1_init.getD c 0 := fun c hc => by rw [fN 7 0 c (by omega), hν9, obF_ne (by omega)]; exact v7 c hc
  clear fN zν9
  rw [obF_of e1]
  refine m_putR (t := 8) (w := 0) (x := 100 * ((8 : Nat) : Int) + ((0 : Nat) : Int)) C dX11_init_126 fl_KilnBench_72 (Or.inl ⟨rfl, rfl⟩) rfl (by decide +kernel) (Or.inr rfl) rfl rfl (by decide) (by decide) ?_
  rw [obF_up]
  refine m_aload_n C dX11_init_129 rfl ?_
  refine m_new (o := 9) C dX11_init_130 rfl wc_KilnBench_76 wi_KilnBench_Image wn_KilnBench_Image rfl (fun j => by rw [obF_ne (by omega)]; exact z9 9 0 j (by omega) (by omega) (by omega)) (Nat.le_of_ble_eq_true rfl) (Nat.le_of_ble_eq_true rfl) ?_
  refine m_dup C dX11_init_133 rfl ?_
  refine m_gen (fun ν10 hν10 => ?_)
  have zν10 : ∀ a b c, ¬ (b = 0 ∧ (a = 1 ∨ a = 32 ∨ a = 33 ∨ a = 2 ∨ a = 3 ∨ a = 4 ∨ a = 5 ∨ a = 10 ∨ a = 11 ∨ a = 6 ∨ (12 ≤ a ∧ a < 32) ∨ a = 7 ∨ a = 8)) → ¬ (a = 3 ∧ b = 1) → ¬ (a = 6 ∧ b = 1) → ν10 a b c = 0 := fun a b c h1 h2 h3 => by rw [hν10, obF_ne (by omega)]; exact z9 a b c h1 h2 h3
  refine m_callI (As := []) (o := 9) (st := [vR 9 0, vR 1 0]) (mc1 := 1) (ms1 := 56) (K := fun S1 μq => S1 = (217, false) ∧ (∀ a b c, ¬ (a = 9 ∧ b = 0) → μq a b c = ν10 a b c) ∧ (∀ c, c < 2 → μq 9 0 c = L_X3_init.getD c 0)) C dX11_init_134 li_KilnBench_78 rfl rfl (by decide) (Nat.le_of_ble_eq_true rfl) (Nat.le_of_ble_eq_true rfl) (i_X3_init hZ (fun b c => by exact zν10 9 b c (by omega) (by omega) (by omega)) (fun μq f x0 => ⟨rfl, f, x0⟩)) (fun S1 μ10 hk => ?_)
  obtain ⟨rfl, fN, v9⟩ := hk
  have e1 := fun c => ((fN 1 0 c (by omega)).trans (by rw [hν10])).trans obF_at
  have z10 : ∀ a b c, ¬ (b = 0 ∧ (a = 1 ∨ a = 32 ∨ a = 33 ∨ a = 2 ∨ a = 3 ∨ a = 4 ∨ a = 5 ∨ a = 10 ∨ a = 11 ∨ a = 6 ∨ (12 ≤ a ∧ a < 32) ∨ a = 7 ∨ a = 8 ∨ a = 9)) → ¬ (a = 3 ∧ b = 1) → ¬ (a = 6 ∧ b = 1) → μ10 a b c = 0 := fun a b c h1 h2 h3 => by rw [fN a b c (by omega)]; exact zν10 a b c (by omega) h2 h3
  have v32 : ∀ c, c < 15 → μ10 32 0 c = (L_X10_init 32).getD c 0 := fun c hc => by rw [fN 32 0 c (by omega), hν10, obF_ne (by omega)]; exact v32 c hc
  have v33 : ∀ c, c < 15 → μ10 33 0 c = (L_X10_init 33).getD c 0 := fun c hc => by rw [fN 33 0 c (by omega), hν10, obF_ne (by omega)]; exact v33 c hc
  have v2 : ∀ c, c < 4 → μ10 2 0 c = L_X6_init.getD c 0 := fun c hc => by rw [fN 2 0 c (by omega), hν10, obF_ne (by omega)]; exact v2 c hc
  have v3 : ∀ c, c < 9 → μ10 3 0 c = L_X7_init.getD c 0 := fun c hc => by rw [fN 3 0 c (by omega), hν10, obF_ne (by omega)]; exact v3 c hc
  have w3 : ∀ c, c < 26 → μ10 3 1 c = ownL.getD c 0 := fun c hc => by rw [fN 3 1 c (by omega), hν10, obF_ne (by omega)]; exact w3 c hc
  have v4 : ∀ c, c < 2 → μ10 4 0 c = L_X4_init.getD c 0 := fun c hc => by rw [fN 4 0 c (by omega), hν10, obF_ne (by omega)]; exact v4 c hc
  have v5 : ∀ c, c < 2 → μ10 5 0 c = L_X5_init.getD c 0 := fun c hc => by rw [fN 5 0 c (by omega), hν10, obF_ne (by omega)]; exact v5 c hc
  have v10 : ∀ c, c < 10 → μ10 10 0 c = (L_X0_init 10).getD c 0 := fun c hc => by rw [fN 10 0 c (by omega), hν10, obF_ne (by omega)]; exact v10 c hc
  have v11 : ∀ c, c < 10 → μ10 11 0 c = (L_X0_init 11).getD c 0 := fun c hc => by rw [fN 11 0 c (by omega), hν10, obF_ne (by omega)]; exact v11 c hc
  have v6 : ∀ c, c < 3 → μ10 6 0 c = L_X2_init.getD c 0 := fun c hc => by rw [fN 6 0 c (by omega), hν10, obF_ne (by omega)]; exact v6 c hc
  have w6 : ∀ c : Nat, c < 20 → μ10 6 1 c = 1200 + 100 * (c : Int) := fun c hc => by rw [fN 6 1 c (by omega), hν10, obF_ne (by omega)]; exact w6 c hc
  have vp : ∀ j, j < 20 → ∀ c, c < 10 → μ10 (12 + j) 0 c = (L_X0_init (12 + j)).getD c 0 := fun j hj c hc => by rw [fN (12 + j) 0 c (by omega), hν10, obF_ne (by omega)]; exact vp j hj c hc
  have v7 : ∀ c, c < 13 → μ10 7 0 c = L_X1_init.getD c 0 := fun c hc => by rw [fN 7 0 c (by omega), hν10, obF_ne (by omega)]; exact v7 c hc
  have v8 : ∀ c, c < 6 → μ10 8 0 c = L_X8_init.getD c 0 := fun c hc => by rw [fN 8 0 c (by omega), hν10, obF_ne (by omega)]; exact v8 c hc
  clear fN zν10
  rw [obF_of e1]
  refine m_putR (t := 9) (w := 0) (x := 100 * ((9 : Nat) : Int) + ((0 : Nat) : Int)) C dX11_init_137 fl_KilnBench_79 (Or.inl ⟨rfl, rfl⟩) rfl (by decide +kernel) (Or.inr rfl) rfl rfl (by decide) (by decide) ?_
  rw [obF_up]
  refine m_aload_n C dX11_init_140 rfl ?_
  refine m_bipush C dX11_init_141 (by omega) ?_
  refine m_newa (a := 0) (len := 6) (w := 13) C (by decide) dX11_init_143 wa_0 rfl (by decide) rfl (by decide) (fun j => by rw [obF_ne (fun q => absurd q.2 (by decide))]; exact z10 1 13 j (by omega) (by omega) (by omega)) (Nat.le_of_ble_eq_true rfl) (Nat.le_of_ble_eq_true rfl) ?_
  refine m_putR (t := 1) (w := 13) (x := 100 * ((1 : Nat) : Int) + ((13 : Nat) : Int)) C dX11_init_145 fl_KilnBench_83 (Or.inl ⟨rfl, rfl⟩) rfl (by decide +kernel) (Or.inr rfl) rfl rfl (by decide) (by decide) ?_
  rw [obF_up]
  refine m_aload_n C dX11_init_148 rfl ?_
  refine m_iconst C dX11_init_149 (by unfold in32; omega) ?_
  refine m_putI C dX11_init_150 fl_KilnBench_87 (Or.inl ⟨rfl, rfl⟩) rfl (by decide +kernel) (Or.inr rfl) rfl ?_
  rw [obF_up]
  refine m_aload_n C dX11_init_153 rfl ?_
  refine m_iconst C dX11_init_154 (by unfold in32; omega) ?_
  refine m_putI C dX11_init_155 fl_KilnBench_90 (Or.inl ⟨rfl, rfl⟩) rfl (by decide +kernel) (Or.inr rfl) rfl ?_
  rw [obF_up]
  refine m_aload_n C dX11_init_158 rfl ?_
  refine m_iconst C dX11_init_159 (by unfold in32; omega) ?_
  refine m_putI C dX11_init_160 fl_KilnBench_93 (Or.inl ⟨rfl, rfl⟩) rfl (by decide +kernel) (Or.inr rfl) rfl ?_
  rw [obF_up]
  refine m_aload_n C dX11_init_163 rfl ?_
  refine m_getR (t := 10) (w := 0) C dX11_init_164 fl_KilnBench_46 rfl (by decide +kernel) rfl (by rw [obF_at]; rfl) (by decide) (by decide) ?_
  refine m_aload_n C dX11_init_167 rfl ?_
  refine m_getR (t := 32) (w := 0) C dX11_init_168 fl_KilnBench_20 rfl (by decide +kernel) rfl (by rw [obF_at]; rfl) (by decide) (by decide) ?_
  refine m_gen (fun νe hνe => ?_)
  have ve : ∀ c, c < 16 → νe 1 0 c = L_X11_init.getD c 0 := fun c hc => by
    rw [hνe, obF_at]
    match c, hc with
    | 0, _ => rfl
    | 1, _ => rfl
    | 2, _ => rfl
    | 3, _ => rfl
    | 4, _ => rfl
    | 5, _ => rfl
    | 6, _ => rfl
    | 7, _ => rfl
    | 8, _ => rfl
    | 9, _ => rfl
    | 10, _ => rfl
    | 11, _ => rfl
    | 12, _ => rfl
    | 13, _ => rfl
    | 14, _ => rfl
    | 15, _ => rfl
    | c + 16, h => exact absurd h (by omega)
  have fe : ∀ a b c, ¬ (a = 1 ∧ b = 0) → νe a b c = μ10 a b c := fun a b c h => by rw [hνe, obF_ne h]
  clear hνe
  refine m_callVv (As := [vR 32 0]) (o := 10) (st := []) (mc1 := 0) (ms1 := 0) (K := fun S1 μq => S1 = (218, false) ∧ MFc μq) C dX11_init_171 ml_KilnBench_96 rfl rfl (by decide +kernel) rfl rfl (by decide) (Nat.le_of_ble_eq_true rfl) (Nat.le_of_ble_eq_true rfl) (i_begin hZ (by decide) (fun j h1 h2 => ?_) (fun μq g1 g2 g3 g4 g5 => ⟨rfl, ?_⟩)) (fun S1 μq hk => ?_)
  · rw [fe 10 0 j (by omega), v10 j (by omega)]
    match j, h1, h2 with
    | 2, _, _ => rfl
    | 3, _, _ => rfl
    | 4, _, _ => rfl
    | 5, _, _ => rfl
    | 6, _, _ => rfl
    | 7, _, _ => rfl
    | 8, _, _ => rfl
  · refine ⟨fun c hc => by rw [g1 1 0 c (by omega)]; exact ve c hc, ⟨fun c hc => by rw [g1 32 0 c (by omega), fe 32 0 c (by omega)]; exact v32 c hc, fun c hc => by rw [g1 33 0 c (by omega), fe 33 0 c (by omega)]; exact v33 c hc, fun c hc => by rw [g1 2 0 c (by omega), fe 2 0 c (by omega)]; exact v2 c hc, fun c hc => by rw [g1 3 0 c (by omega), fe 3 0 c (by omega)]; exact v3 c hc, fun c hc => by rw [g1 3 1 c (by omega), fe 3 1 c (by omega)]; exact w3 c hc, fun c hc => by rw [g1 4 0 c (by omega), fe 4 0 c (by omega)]; exact v4 c hc, fun c hc => by rw [g1 5 0 c (by omega), fe 5 0 c (by omega)]; exact v5 c hc, fun c hc => by rw [g1 11 0 c (by omega), fe 11 0 c (by omega)]; exact v11 c hc, fun c hc => by rw [g1 6 0 c (by omega), fe 6 0 c (by omega)]; exact v6 c hc, fun c hc => by rw [g1 6 1 c (by omega), fe 6 1 c (by omega)]; exact w6 c hc, fun j hj c hc => by rw [g1 (12 + j) 0 c (by omega), fe (12 + j) 0 c (by omega)]; exact vp j hj c hc, fun c hc => by rw [g1 7 0 c (by omega), fe 7 0 c (by omega)]; exact v7 c hc, fun c hc => by rw [g1 8 0 c (by omega), fe 8 0 c (by omega)]; exact v8 c hc, fun c hc => by rw [g1 9 0 c (by omega), fe 9 0 c (by omega)]; exact v9 c hc⟩, ⟨g3.1, ?_, g3.2.2, fun c h1 h2 => ?_⟩, g4, g5, fun a b c h1 h2 h3 h4 => by rw [g1 a b c h4, fe a b c (by omega)]; exact z10 a b c (by omega) h2 h3⟩
    · rw [g3.2.1, fe 32 0 7 (by omega), v32 7 (by decide)]; rfl
    · rw [g2 c h1 h2, fe 10 0 c (by omega), v10 c (by omega)]
      match c, h1, h2 with
      | 2, _, _ => rfl
      | 3, _, _ => rfl
      | 4, _, _ => rfl
      | 5, _, _ => rfl
      | 6, _, _ => rfl
      | 7, _, _ => rfl
      | 8, _, _ => rfl
  obtain ⟨rfl, hM⟩ := hk
  exact m_vret C R rfl dX11_init_174 (Nat.le_of_ble_eq_true rfl) (Nat.le_of_ble_eq_true rfl) (hK μq hM)
