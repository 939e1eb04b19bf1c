/-! ===== the constructors that make no other object (printed by a program of mine) ===== -/
abbrev YX0_init : m_Y := (yX0_init, cX0_init, 1, none)
abbrev YX10_init : m_Y := (yX10_init, cX10_init, 1, none)
abbrev YX5_init : m_Y := (yX5_init, cX5_init, 1, none)
abbrev YX8_init : m_Y := (yX8_init, cX8_init, 1, none)
abbrev YX3_init : m_Y := (yX3_init, cX3_init, 1, none)
abbrev YX1_init : m_Y := (yX1_init, cX1_init, 2, none)
theorem wo_i : Cond.instanceMethod Lib.objectInit ∈ m_w := m_mem 136 (by decide +kernel) rfl
theorem wo_c : Cond.code Lib.objectInit ⟨#[0xb1]⟩ 1 none ∈ m_w := m_mem 137 (by decide +kernel) rfl
theorem wo_KilnBench_Bench_3 : Cond.methodLink "KilnBench$Bench" 3 Lib.objectInit ∈ m_w := m_mem 362 (by decide +kernel) rfl
theorem wa_0 : Cond.arrayClass .int ∈ m_w := m_mem 218 (by decide +kernel) rfl
theorem wo_KilnBench_Town_3 : Cond.methodLink "KilnBench$Town" 3 Lib.objectInit ∈ m_w := m_mem 143 (by decide +kernel) rfl
theorem wo_KilnBench_Machine_3 : Cond.methodLink "KilnBench$Machine" 3 Lib.objectInit ∈ m_w := m_mem 339 (by decide +kernel) rfl
theorem wo_KilnBench_Sight_3 : Cond.methodLink "KilnBench$Sight" 3 Lib.objectInit ∈ m_w := m_mem 491 (by decide +kernel) rfl
theorem wo_KilnBench_Image_3 : Cond.methodLink "KilnBench$Image" 3 Lib.objectInit ∈ m_w := m_mem 520 (by decide +kernel) rfl
theorem wo_KilnBench_BestSearch_3 : Cond.methodLink "KilnBench$BestSearch" 3 Lib.objectInit ∈ m_w := m_mem 442 (by decide +kernel) rfl
theorem wa_1 : Cond.arrayClass .byte ∈ m_w := m_mem 217 (by decide +kernel) rfl
set_option maxRecDepth 20000 in
def L_X0_init (o : Nat) : List Int := [0, 0, 100 * ((o : Nat) : Int) + ((3 : Nat) : Int), 100 * ((o : Nat) : Int) + ((4 : Nat) : Int), 100 * ((o : Nat) : Int) + ((5 : Nat) : Int), 100 * ((o : Nat) : Int) + ((6 : Nat) : Int), 100 * ((o : Nat) : Int) + ((7 : Nat) : Int), 100 * ((o : Nat) : Int) + ((8 : Nat) : Int), 100 * ((o : Nat) : Int) + ((9 : Nat) : Int), 0]
theorem i_X0_init {G : m_G} {d : Nat} {μ : m_M} {K : Nat × Bool → m_M → Prop} (hZ : m_Zk G) {o n : Nat} (hc : m_cls o = 0) (hE : m_E.idxOf (o, 0) < n) (q0 : m_E[n]? = some (o, 3)) (q1 : m_E[n + 1]? = some (o, 4)) (q2 : m_E[n + 2]? = some (o, 5)) (q3 : m_E[n + 3]? = some (o, 6)) (q4 : m_E[n + 4]? = some (o, 7)) (q5 : m_E[n + 5]? = some (o, 8)) (q6 : m_E[n + 6]? = some (o, 9)) (z : ∀ b c, μ o b c = 0) (hK : ∀ μ1, (∀ a b c, ¬ (a = o ∧ b = 0) → μ1 a b c = μ a b c) → (∀ c, c < 10 → μ1 o 0 c = (L_X0_init o).getD c 0) → K (n + 7, false) μ1) : m_Cv G (d + 1) 7 75 YX0_init (n, false) [vR o 0] μ K := by
  refine m_enter (S := (n, false)) (by decide) (Nat.le_of_ble_eq_true rfl) hZ (fun X C R => ?_)
  show m_W G X YX0_init (n, false, 0, 0) μ 0 [some (vR o 0)] []
  rw [obF_of (μ := μ) (o := o) (f := fun _ => 0) (z 0)]
  refine m_aload_n C dX0_init_0 rfl ?_
  refine m_objI C dX0_init_1 wo_KilnBench_Bench_3 wo_i wo_c (by decide) ?_
  refine m_aload_n C dX0_init_4 rfl ?_
  refine m_iconst C dX0_init_5 (by unfold in32; omega) ?_
  refine m_putI C dX0_init_6 fl_KilnBench_Bench_9 (Or.inl ⟨rfl, rfl⟩) hc (Nat.lt_of_lt_of_le hE (Nat.le_add_right n 0)) (Or.inr rfl) rfl ?_
  rw [obF_up]
  refine m_aload_n C dX0_init_9 rfl ?_
  refine m_iconst C dX0_init_10 (by unfold in32; omega) ?_
  refine m_putI C dX0_init_11 fl_KilnBench_Bench_15 (Or.inl ⟨rfl, rfl⟩) hc (Nat.lt_of_lt_of_le hE (Nat.le_add_right n 0)) (Or.inr rfl) rfl ?_
  rw [obF_up]
  refine m_aload_n C dX0_init_14 rfl ?_
  refine m_bipush C dX0_init_15 (by omega) ?_
  refine m_newa (a := 0) (len := 8) (w := 3) C (by decide) dX0_init_17 wa_0 q0 (by decide) (by unfold m_ar; rw [hc]; rfl) (by decide) (fun j => by rw [obF_ne (fun q => absurd q.2 (by decide))]; exact z 3 j) (Nat.le_of_ble_eq_true rfl) (Nat.le_of_ble_eq_true rfl) ?_
  refine m_putR (t := o) (w := 3) (x := 100 * ((o : Nat) : Int) + ((3 : Nat) : Int)) C dX0_init_19 fl_KilnBench_Bench_18 (Or.inl ⟨rfl, rfl⟩) hc (Nat.lt_of_lt_of_le hE (Nat.le_add_right n 1)) (Or.inr rfl) rfl rfl (by decide) (m_cls0 hc (by decide)) ?_
  rw [obF_up]
  refine m_aload_n C dX0_init_22 rfl ?_
  refine m_bipush C dX0_init_23 (by omega) ?_
  refine m_newa (a := 0) (len := 8) (w := 4) C (by decide) dX0_init_25 wa_0 q1 (by decide) (by unfold m_ar; rw [hc]; rfl) (by decide) (fun j => by rw [obF_ne (fun q => absurd q.2 (by decide))]; exact z 4 j) (Nat.le_of_ble_eq_true rfl) (Nat.le_of_ble_eq_true rfl) ?_
  refine m_putR (t := o) (w := 4) (x := 100 * ((o : Nat) : Int) + ((4 : Nat) : Int)) C dX0_init_27 fl_KilnBench_Bench_22 (Or.inl ⟨rfl, rfl⟩) hc (Nat.lt_of_lt_of_le hE (Nat.le_add_right n 2)) (Or.inr rfl) rfl rfl (by decide) (m_cls0 hc (by decide)) ?_
  rw [obF_up]
  refine m_aload_n C dX0_init_30 rfl ?_
  refine m_bipush C dX0_init_31 (by omega) ?_
  refine m_newa (a := 0) (len := 8) (w := 5) C (by decide) dX0_init_33 wa_0 q2 (by decide) (by unfold m_ar; rw [hc]; rfl) (by decide) (fun j => by rw [obF_ne (fun q => absurd q.2 (by decide))]; exact z 5 j) (Nat.le_of_ble_eq_true rfl) (Nat.le_of_ble_eq_true rfl) ?_
  refine m_putR (t := o) (w := 5) (x := 100 * ((o : Nat) : Int) + ((5 : Nat) : Int)) C dX0_init_35 fl_KilnBench_Bench_25 (Or.inl ⟨rfl, rfl⟩) hc (Nat.lt_of_lt_of_le hE (Nat.le_add_right n 3)) (Or.inr rfl) rfl rfl (by decide) (m_cls0 hc (by decide)) ?_
  rw [obF_up]
  refine m_aload_n C dX0_init_38 rfl ?_
  refine m_bipush C dX0_init_39 (by omega) ?_
  refine m_newa (a := 0) (len := 8) (w := 6) C (by decide) dX0_init_41 wa_0 q3 (by decide) (by unfold m_ar; rw [hc]; rfl) (by decide) (fun j => by rw [obF_ne (fun q => absurd q.2 (by decide))]; exact z 6 j) (Nat.le_of_ble_eq_true rfl) (Nat.le_of_ble_eq_true rfl) ?_
  refine m_putR (t := o) (w := 6) (x := 100 * ((o : Nat) : Int) + ((6 : Nat) : Int)) C dX0_init_43 fl_KilnBench_Bench_28 (Or.inl ⟨rfl, rfl⟩) hc (Nat.lt_of_lt_of_le hE (Nat.le_add_right n 4)) (Or.inr rfl) rfl rfl (by decide) (m_cls0 hc (by decide)) ?_
  rw [obF_up]
  refine m_aload_n C dX0_init_46 rfl ?_
  refine m_bipush C dX0_init_47 (by omega) ?_
  refine m_newa (a := 0) (len := 8) (w := 7) C (by decide) dX0_init_49 wa_0 q4 (by decide) (by unfold m_ar; rw [hc]; rfl) (by decide) (fun j => by rw [obF_ne (fun q => absurd q.2 (by decide))]; exact z 7 j) (Nat.le_of_ble_eq_true rfl) (Nat.le_of_ble_eq_true rfl) ?_
  refine m_putR (t := o) (w := 7) (x := 100 * ((o : Nat) : Int) + ((7 : Nat) : Int)) C dX0_init_51 fl_KilnBench_Bench_31 (Or.inl ⟨rfl, rfl⟩) hc (Nat.lt_of_lt_of_le hE (Nat.le_add_right n 5)) (Or.inr rfl) rfl rfl (by decide) (m_cls0 hc (by decide)) ?_
  rw [obF_up]
  refine m_aload_n C dX0_init_54 rfl ?_
  refine m_iconst C dX0_init_55 (by unfold in32; omega) ?_
  refine m_newa (a := 0) (len := 3) (w := 8) C (by decide) dX0_init_56 wa_0 q5 (by decide) (by unfold m_ar; rw [hc]; rfl) (by decide) (fun j => by rw [obF_ne (fun q => absurd q.2 (by decide))]; exact z 8 j) (Nat.le_of_ble_eq_true rfl) (Nat.le_of_ble_eq_true rfl) ?_
  refine m_putR (t := o) (w := 8) (x := 100 * ((o : Nat) : Int) + ((8 : Nat) : Int)) C dX0_init_58 fl_KilnBench_Bench_34 (Or.inl ⟨rfl, rfl⟩) hc (Nat.lt_of_lt_of_le hE (Nat.le_add_right n 6)) (Or.inr rfl) rfl rfl (by decide) (m_cls0 hc (by decide)) ?_
  rw [obF_up]
  refine m_aload_n C dX0_init_61 rfl ?_
  refine m_bipush C dX0_init_62 (by omega) ?_
  refine m_newa (a := 0) (len := 32) (w := 9) C (by decide) dX0_init_64 wa_0 q6 (by decide) (by unfold m_ar; rw [hc]; rfl) (by decide) (fun j => by rw [obF_ne (fun q => absurd q.2 (by decide))]; exact z 9 j) (Nat.le_of_ble_eq_true rfl) (Nat.le_of_ble_eq_true rfl) ?_
  refine m_putR (t := o) (w := 9) (x := 100 * ((o : Nat) : Int) + ((9 : Nat) : Int)) C dX0_init_66 fl_KilnBench_Bench_37 (Or.inl ⟨rfl, rfl⟩) hc (Nat.lt_of_lt_of_le hE (Nat.le_add_right n 7)) (Or.inr rfl) rfl rfl (by decide) (m_cls0 hc (by decide)) ?_
  rw [obF_up]
  refine m_aload_n C dX0_init_69 rfl ?_
  refine m_iconst C dX0_init_70 (by unfold in32; omega) ?_
  refine m_putI C dX0_init_71 fl_KilnBench_Bench_40 (Or.inl ⟨rfl, rfl⟩) hc (Nat.lt_of_lt_of_le hE (Nat.le_add_right n 7)) (Or.inr rfl) rfl ?_
  rw [obF_up]
  refine m_vret C R rfl dX0_init_74 (Nat.le_of_ble_eq_true rfl) (Nat.le_of_ble_eq_true rfl) ?_
  refine hK _ (fun a b c h => obF_ne h) (fun c hc => ?_)
  rw [obF_at]
  match c, hc with
  | 0, _ => rfl
  | 1, _ => rfl
  | 2, _ => rfl
  | 3, _ => rfl
  | 4, _ => rfl
  | 5, _ => rfl
  | 6, _ => rfl
  | 7, _ => rfl
  | 8, _ => rfl
  | 9, _ => rfl
set_option maxRecDepth 20000 in
def L_X10_init (o : Nat) : List Int := [100 * ((o : Nat) : Int) + ((1 : Nat) : Int), 100 * ((o : Nat) : Int) + ((2 : Nat) : Int), 100 * ((o : Nat) : Int) + ((3 : Nat) : Int), 0, 100 * ((o : Nat) : Int) + ((5 : Nat) : Int), 100 * ((o : Nat) : Int) + ((6 : Nat) : Int), 0, 0, 0, 0, 0, 100 * ((o : Nat) : Int) + ((12 : Nat) : Int), 0, 100 * ((o : Nat) : Int) + ((14 : Nat) : Int), 100 * ((o : Nat) : Int) + ((15 : Nat) : Int)]
theorem i_X10_init {G : m_G} {d : Nat} {μ : m_M} {K : Nat × Bool → m_M → Prop} (hZ : m_Zk G) {o n : Nat} (hc : m_cls o = 9) (hE : m_E.idxOf (o, 0) < n) (q0 : m_E[n]? = some (o, 1)) (q1 : m_E[n + 1]? = some (o, 2)) (q2 : m_E[n + 2]? = some (o, 3)) (q3 : m_E[n + 3]? = some (o, 5)) (q4 : m_E[n + 4]? = some (o, 6)) (q5 : m_E[n + 5]? = some (o, 12)) (q6 : m_E[n + 6]? = some (o, 14)) (q7 : m_E[n + 7]? = some (o, 15)) (z : ∀ b c, μ o b c = 0) (hK : ∀ μ1, (∀ a b c, ¬ (a = o ∧ b = 0) → μ1 a b c = μ a b c) → (∀ c, c < 15 → μ1 o 0 c = (L_X10_init o).getD c 0) → K (n + 8, false) μ1) : m_Cv G (d + 1) 8 1638 YX10_init (n, false) [vR o 0] μ K := by
  refine m_enter (S := (n, false)) (by decide) (Nat.le_of_ble_eq_true rfl) hZ (fun X C R => ?_)
  show m_W G X YX10_init (n, false, 0, 0) μ 0 [some (vR o 0)] []
  rw [obF_of (μ := μ) (o := o) (f := fun _ => 0) (z 0)]
  refine m_aload_n C dX10_init_0 rfl ?_
  refine m_objI C dX10_init_1 wo_KilnBench_Town_3 wo_i wo_c (by decide) ?_
  refine m_aload_n C dX10_init_4 rfl ?_
  refine m_bipush C dX10_init_5 (by omega) ?_
  refine m_newa (a := 0) (len := 8) (w := 1) C (by decide) dX10_init_7 wa_0 q0 (by decide) (by unfold m_ar; rw [hc]; rfl) (by decide) (fun j => by rw [obF_ne (fun q => absurd q.2 (by decide))]; exact z 1 j) (Nat.le_of_ble_eq_true rfl) (Nat.le_of_ble_eq_true rfl) ?_
  refine m_putR (t := o) (w := 1) (x := 100 * ((o : Nat) : Int) + ((1 : Nat) : Int)) C dX10_init_9 fl_KilnBench_Town_9 (Or.inl ⟨rfl, rfl⟩) hc (Nat.lt_of_lt_of_le hE (Nat.le_add_right n 1)) (Or.inr rfl) rfl rfl (by decide) (m_cls0 hc (by decide)) ?_
  rw [obF_up]
  refine m_aload_n C dX10_init_12 rfl ?_
  refine m_bipush C dX10_init_13 (by omega) ?_
  refine m_newa (a := 0) (len := 8) (w := 2) C (by decide) dX10_init_15 wa_0 q1 (by decide) (by unfold m_ar; rw [hc]; rfl) (by decide) (fun j => by rw [obF_ne (fun q => absurd q.2 (by decide))]; exact z 2 j) (Nat.le_of_ble_eq_true rfl) (Nat.le_of_ble_eq_true rfl) ?_
  refine m_putR (t := o) (w := 2) (x := 100 * ((o : Nat) : Int) + ((2 : Nat) : Int)) C dX10_init_17 fl_KilnBench_Town_15 (Or.inl ⟨rfl, rfl⟩) hc (Nat.lt_of_lt_of_le hE (Nat.le_add_right n 2)) (Or.inr rfl) rfl rfl (by decide) (m_cls0 hc (by decide)) ?_
  rw [obF_up]
  refine m_aload_n C dX10_init_20 rfl ?_
  refine m_bipush C dX10_init_21 (by omega) ?_
  refine m_newa (a := 0) (len := 8) (w := 3) C (by decide) dX10_init_23 wa_0 q2 (by decide) (by unfold m_ar; rw [hc]; rfl) (by decide) (fun j => by rw [obF_ne (fun q => absurd q.2 (by decide))]; exact z 3 j) (Nat.le_of_ble_eq_true rfl) (Nat.le_of_ble_eq_true rfl) ?_
  refine m_putR (t := o) (w := 3) (x := 100 * ((o : Nat) : Int) + ((3 : Nat) : Int)) C dX10_init_25 fl_KilnBench_Town_18 (Or.inl ⟨rfl, rfl⟩) hc (Nat.lt_of_lt_of_le hE (Nat.le_add_right n 3)) (Or.inr rfl) rfl rfl (by decide) (m_cls0 hc (by decide)) ?_
  rw [obF_up]
  refine m_aload_n C dX10_init_28 rfl ?_
  refine m_iconst C dX10_init_29 (by unfold in32; omega) ?_
  refine m_putI C dX10_init_30 fl_KilnBench_Town_21 (Or.inl ⟨rfl, rfl⟩) hc (Nat.lt_of_lt_of_le hE (Nat.le_add_right n 3)) (Or.inr rfl) rfl ?_
  rw [obF_up]
  refine m_aload_n C dX10_init_33 rfl ?_
  refine m_iconst C dX10_init_34 (by unfold in32; omega) ?_
  refine m_newa (a := 0) (len := 3) (w := 5) C (by decide) dX10_init_35 wa_0 q3 (by decide) (by unfold m_ar; rw [hc]; rfl) (by decide) (fun j => by rw [obF_ne (fun q => absurd q.2 (by decide))]; exact z 5 j) (Nat.le_of_ble_eq_true rfl) (Nat.le_of_ble_eq_true rfl) ?_
  refine m_putR (t := o) (w := 5) (x := 100 * ((o : Nat) : Int) + ((5 : Nat) : Int)) C dX10_init_37 fl_KilnBench_Town_25 (Or.inl ⟨rfl, rfl⟩) hc (Nat.lt_of_lt_of_le hE (Nat.le_add_right n 4)) (Or.inr rfl) rfl rfl (by decide) (m_cls0 hc (by decide)) ?_
  rw [obF_up]
  refine m_aload_n C dX10_init_40 rfl ?_
  refine m_iconst C dX10_init_41 (by unfold in32; omega) ?_
  refine m_newa (a := 0) (len := 3) (w := 6) C (by decide) dX10_init_42 wa_0 q4 (by decide) (by unfold m_ar; rw [hc]; rfl) (by decide) (fun j => by rw [obF_ne (fun q => absurd q.2 (by decide))]; exact z 6 j) (Nat.le_of_ble_eq_true rfl) (Nat.le_of_ble_eq_true rfl) ?_
  refine m_putR (t := o) (w := 6) (x := 100 * ((o : Nat) : Int) + ((6 : Nat) : Int)) C dX10_init_44 fl_KilnBench_Town_28 (Or.inl ⟨rfl, rfl⟩) hc (Nat.lt_of_lt_of_le hE (Nat.le_add_right n 5)) (Or.inr rfl) rfl rfl (by decide) (m_cls0 hc (by decide)) ?_
  rw [obF_up]
  refine m_aload_n C dX10_init_47 rfl ?_
  refine m_iconst C dX10_init_48 (by unfold in32; omega) ?_
  refine m_putI C dX10_init_49 fl_KilnBench_Town_31 (Or.inl ⟨rfl, rfl⟩) hc (Nat.lt_of_lt_of_le hE (Nat.le_add_right n 5)) (Or.inr rfl) rfl ?_
  rw [obF_up]
  refine m_aload_n C dX10_init_52 rfl ?_
  refine m_iconst C dX10_init_53 (by unfold in32; omega) ?_
  refine m_putI C dX10_init_54 fl_KilnBench_Town_34 (Or.inl ⟨rfl, rfl⟩) hc (Nat.lt_of_lt_of_le hE (Nat.le_add_right n 5)) (Or.inr rfl) rfl ?_
  rw [obF_up]
  refine m_aload_n C dX10_init_57 rfl ?_
  refine m_iconst C dX10_init_58 (by unfold in32; omega) ?_
  refine m_putI C dX10_init_59 fl_KilnBench_Town_37 (Or.inl ⟨rfl, rfl⟩) hc (Nat.lt_of_lt_of_le hE (Nat.le_add_right n 5)) (Or.inr rfl) rfl ?_
  rw [obF_up]
  refine m_aload_n C dX10_init_62 rfl ?_
  refine m_iconst C dX10_init_63 (by unfold in32; omega) ?_
  refine m_putI C dX10_init_64 fl_KilnBench_Town_40 (Or.inl ⟨rfl, rfl⟩) hc (Nat.lt_of_lt_of_le hE (Nat.le_add_right n 5)) (Or.inr rfl) rfl ?_
  rw [obF_up]
  refine m_aload_n C dX10_init_67 rfl ?_
  refine m_iconst C dX10_init_68 (by unfold in32; omega) ?_
  refine m_putI C dX10_init_69 fl_KilnBench_Town_43 (Or.inl ⟨rfl, rfl⟩) hc (Nat.lt_of_lt_of_le hE (Nat.le_add_right n 5)) (Or.inr rfl) rfl ?_
  rw [obF_up]
  refine m_aload_n C dX10_init_72 rfl ?_
  refine m_sipush C dX10_init_73 (by omega) ?_
  refine m_newa (a := 0) (len := 1600) (w := 12) C (by decide) dX10_init_76 wa_0 q5 (by decide) (by unfold m_ar; rw [hc]; rfl) (by decide) (fun j => by rw [obF_ne (fun q => absurd q.2 (by decide))]; exact z 12 j) (Nat.le_of_ble_eq_true rfl) (Nat.le_of_ble_eq_true rfl) ?_
  refine m_putR (t := o) (w := 12) (x := 100 * ((o : Nat) : Int) + ((12 : Nat) : Int)) C dX10_init_78 fl_KilnBench_Town_46 (Or.inl ⟨rfl, rfl⟩) hc (Nat.lt_of_lt_of_le hE (Nat.le_add_right n 6)) (Or.inr rfl) rfl rfl (by decide) (m_cls0 hc (by decide)) ?_
  rw [obF_up]
  refine m_aload_n C dX10_init_81 rfl ?_
  refine m_iconst C dX10_init_82 (by unfold in32; omega) ?_
  refine m_putI C dX10_init_83 fl_KilnBench_Town_49 (Or.inl ⟨rfl, rfl⟩) hc (Nat.lt_of_lt_of_le hE (Nat.le_add_right n 6)) (Or.inr rfl) rfl ?_
  rw [obF_up]
  refine m_aload_n C dX10_init_86 rfl ?_
  refine m_iconst C dX10_init_87 (by unfold in32; omega) ?_
  refine m_newa (a := 0) (len := 4) (w := 14) C (by decide) dX10_init_88 wa_0 q6 (by decide) (by unfold m_ar; rw [hc]; rfl) (by decide) (fun j => by rw [obF_ne (fun q => absurd q.2 (by decide))]; exact z 14 j) (Nat.le_of_ble_eq_true rfl) (Nat.le_of_ble_eq_true rfl) ?_
  refine m_putR (t := o) (w := 14) (x := 100 * ((o : Nat) : Int) + ((14 : Nat) : Int)) C dX10_init_90 fl_KilnBench_Town_52 (Or.inl ⟨rfl, rfl⟩) hc (Nat.lt_of_lt_of_le hE (Nat.le_add_right n 7)) (Or.inr rfl) rfl rfl (by decide) (m_cls0 hc (by decide)) ?_
  rw [obF_up]
  refine m_aload_n C dX10_init_93 rfl ?_
  refine m_iconst C dX10_init_94 (by unfold in32; omega) ?_
  refine m_newa (a := 0) (len := 4) (w := 15) C (by decide) dX10_init_95 wa_0 q7 (by decide) (by unfold m_ar; rw [hc]; rfl) (by decide) (fun j => by rw [obF_ne (fun q => absurd q.2 (by decide))]; exact z 15 j) (Nat.le_of_ble_eq_true rfl) (Nat.le_of_ble_eq_true rfl) ?_
  refine m_putR (t := o) (w := 15) (x := 100 * ((o : Nat) : Int) + ((15 : Nat) : Int)) C dX10_init_97 fl_KilnBench_Town_55 (Or.inl ⟨rfl, rfl⟩) hc (Nat.lt_of_lt_of_le hE (Nat.le_add_right n 8)) (Or.inr rfl) rfl rfl (by decide) (m_cls0 hc (by decide)) ?_
  rw [obF_up]
  refine m_vret C R rfl dX10_init_100 (Nat.le_of_ble_eq_true rfl) (Nat.le_of_ble_eq_true rfl) ?_
  refine hK _ (fun a b c h => obF_ne h) (fun c hc => ?_)
  rw [obF_at]
  match c, hc with
  | 0, _ => rfl
  | 1, _ => rfl
  | 2, _ => rfl
  | 3, _ => rfl
  | 4, _ => rfl
  | 5, _ => rfl
  | 6, _ => rfl
  | 7, _ => rfl
  | 8, _ => rfl
  | 9, _ => rfl
  | 10, _ => rfl
  | 11, _ => rfl
  | 12, _ => rfl
  | 13, _ => rfl
  | 14, _ => rfl
set_option maxRecDepth 20000 in
def L_X5_init : List Int := [100 * ((5 : Nat) : Int) + ((1 : Nat) : Int), 100 * ((5 : Nat) : Int) + ((2 : Nat) : Int)]
theorem i_X5_init {G : m_G} {d : Nat} {μ : m_M} {K : Nat × Bool → m_M → Prop} (hZ : m_Zk G) (z : ∀ b c, μ 5 b c = 0) (hK : ∀ μ1, (∀ a b c, ¬ (a = 5 ∧ b = 0) → μ1 a b c = μ a b c) → (∀ c, c < 2 → μ1 5 0 c = L_X5_init.getD c 0) → K (28, false) μ1) : m_Cv G (d + 1) 2 90 YX5_init (26, false) [vR 5 0] μ K := by
  refine m_enter (S := (26, false)) (by decide) (Nat.le_of_ble_eq_true rfl) hZ (fun X C R => ?_)
  show m_W G X YX5_init (26, false, 0, 0) μ 0 [some (vR 5 0)] []
  rw [obF_of (μ := μ) (o := 5) (f := fun _ => 0) (z 0)]
  refine m_aload_n C dX5_init_0 rfl ?_
  refine m_objI C dX5_init_1 wo_KilnBench_Machine_3 wo_i wo_c (by decide) ?_
  refine m_aload_n C dX5_init_4 rfl ?_
  refine m_bipush C dX5_init_5 (by omega) ?_
  refine m_newa (a := 0) (len := 26) (w := 1) C (by decide) dX5_init_7 wa_0 rfl (by decide) rfl (by decide) (fun j => by rw [obF_ne (fun q => absurd q.2 (by decide))]; exact z 1 j) (Nat.le_of_ble_eq_true rfl) (Nat.le_of_ble_eq_true rfl) ?_
  refine m_putR (t := 5) (w := 1) (x := 100 * ((5 : Nat) : Int) + ((1 : Nat) : Int)) C dX5_init_9 fl_KilnBench_Machine_11 (Or.inl ⟨rfl, rfl⟩) rfl (by decide +kernel) (Or.inr rfl) rfl rfl (by decide) (by decide) ?_
  rw [obF_up]
  refine m_aload_n C dX5_init_12 rfl ?_
  refine m_bipush C dX5_init_13 (by omega) ?_
  refine m_newa (a := 0) (len := 64) (w := 2) C (by decide) dX5_init_15 wa_0 rfl (by decide) rfl (by decide) (fun j => by rw [obF_ne (fun q => absurd q.2 (by decide))]; exact z 2 j) (Nat.le_of_ble_eq_true rfl) (Nat.le_of_ble_eq_true rfl) ?_
  refine m_putR (t := 5) (w := 2) (x := 100 * ((5 : Nat) : Int) + ((2 : Nat) : Int)) C dX5_init_17 fl_KilnBench_Machine_17 (Or.inl ⟨rfl, rfl⟩) rfl (by decide +kernel) (Or.inr rfl) rfl rfl (by decide) (by decide) ?_
  rw [obF_up]
  refine m_vret C R rfl dX5_init_20 (Nat.le_of_ble_eq_true rfl) (Nat.le_of_ble_eq_true rfl) ?_
  refine hK _ (fun a b c h => obF_ne h) (fun c hc => ?_)
  rw [obF_at]
  match c, hc with
  | 0, _ => rfl
  | 1, _ => rfl
set_option maxRecDepth 20000 in
def L_X8_init : List Int := [0, -1, -1, 0, 100 * ((8 : Nat) : Int) + ((5 : Nat) : Int), 100 * ((8 : Nat) : Int) + ((6 : Nat) : Int)]
theorem i_X8_init {G : m_G} {d : Nat} {μ : m_M} {K : Nat × Bool → m_M → Prop} (hZ : m_Zk G) (z : ∀ b c, μ 8 b c = 0) (hK : ∀ μ1, (∀ a b c, ¬ (a = 8 ∧ b = 0) → μ1 a b c = μ a b c) → (∀ c, c < 6 → μ1 8 0 c = L_X8_init.getD c 0) → K (215, false) μ1) : m_Cv G (d + 1) 2 148 YX8_init (213, false) [vR 8 0] μ K := by
  refine m_enter (S := (213, false)) (by decide) (Nat.le_of_ble_eq_true rfl) hZ (fun X C R => ?_)
  show m_W G X YX8_init (213, false, 0, 0) μ 0 [some (vR 8 0)] []
  rw [obF_of (μ := μ) (o := 8) (f := fun _ => 0) (z 0)]
  refine m_aload_n C dX8_init_0 rfl ?_
  refine m_objI C dX8_init_1 wo_KilnBench_Sight_3 wo_i wo_c (by decide) ?_
  refine m_aload_n C dX8_init_4 rfl ?_
  refine m_iconst C dX8_init_5 (by unfold in32; omega) ?_
  refine m_putI C dX8_init_6 fl_KilnBench_Sight_9 (Or.inl ⟨rfl, rfl⟩) rfl (by decide +kernel) (Or.inr rfl) rfl ?_
  rw [obF_up]
  refine m_aload_n C dX8_init_9 rfl ?_
  refine m_iconst C dX8_init_10 (by unfold in32; omega) ?_
  refine m_putI C dX8_init_11 fl_KilnBench_Sight_15 (Or.inl ⟨rfl, rfl⟩) rfl (by decide +kernel) (Or.inr rfl) rfl ?_
  rw [obF_up]
  refine m_aload_n C dX8_init_14 rfl ?_
  refine m_iconst C dX8_init_15 (by unfold in32; omega) ?_
  refine m_putI C dX8_init_16 fl_KilnBench_Sight_18 (Or.inl ⟨rfl, rfl⟩) rfl (by decide +kernel) (Or.inr rfl) rfl ?_
  rw [obF_up]
  refine m_aload_n C dX8_init_19 rfl ?_
  refine m_iconst C dX8_init_20 (by unfold in32; omega) ?_
  refine m_putI C dX8_init_21 fl_KilnBench_Sight_21 (Or.inl ⟨rfl, rfl⟩) rfl (by decide +kernel) (Or.inr rfl) rfl ?_
  rw [obF_up]
  refine m_aload_n C dX8_init_24 rfl ?_
  refine m_bipush C dX8_init_25 (by omega) ?_
  refine m_newa (a := 0) (len := 48) (w := 5) C (by decide) dX8_init_27 wa_0 rfl (by decide) rfl (by decide) (fun j => by rw [obF_ne (fun q => absurd q.2 (by decide))]; exact z 5 j) (Nat.le_of_ble_eq_true rfl) (Nat.le_of_ble_eq_true rfl) ?_
  refine m_putR (t := 8) (w := 5) (x := 100 * ((8 : Nat) : Int) + ((5 : Nat) : Int)) C dX8_init_29 fl_KilnBench_Sight_24 (Or.inl ⟨rfl, rfl⟩) rfl (by decide +kernel) (Or.inr rfl) rfl rfl (by decide) (by decide) ?_
  rw [obF_up]
  refine m_aload_n C dX8_init_32 rfl ?_
  refine m_bipush C dX8_init_33 (by omega) ?_
  refine m_newa (a := 0) (len := 100) (w := 6) C (by decide) dX8_init_35 wa_0 rfl (by decide) rfl (by decide) (fun j => by rw [obF_ne (fun q => absurd q.2 (by decide))]; exact z 6 j) (Nat.le_of_ble_eq_true rfl) (Nat.le_of_ble_eq_true rfl) ?_
  refine m_putR (t := 8) (w := 6) (x := 100 * ((8 : Nat) : Int) + ((6 : Nat) : Int)) C dX8_init_37 fl_KilnBench_Sight_28 (Or.inl ⟨rfl, rfl⟩) rfl (by decide +kernel) (Or.inr rfl) rfl rfl (by decide) (by decide) ?_
  rw [obF_up]
  refine m_vret C R rfl dX8_init_40 (Nat.le_of_ble_eq_true rfl) (Nat.le_of_ble_eq_true rfl) ?_
  refine hK _ (fun a b c h => obF_ne h) (fun c hc => ?_)
  rw [obF_at]
  match c, hc with
  | 0, _ => rfl
  | 1, _ => rfl
  | 2, _ => rfl
  | 3, _ => rfl
  | 4, _ => rfl
  | 5, _ => rfl
set_option maxRecDepth 20000 in
def L_X3_init : List Int := [100 * ((9 : Nat) : Int) + ((1 : Nat) : Int), 0]
theorem i_X3_init {G : m_G} {d : Nat} {μ : m_M} {K : Nat × Bool → m_M → Prop} (hZ : m_Zk G) (z : ∀ b c, μ 9 b c = 0) (hK : ∀ μ1, (∀ a b c, ¬ (a = 9 ∧ b = 0) → μ1 a b c = μ a b c) → (∀ c, c < 2 → μ1 9 0 c = L_X3_init.getD c 0) → K (217, false) μ1) : m_Cv G (d + 1) 1 56 YX3_init (216, false) [vR 9 0] μ K := by
  refine m_enter (S := (216, false)) (by decide) (Nat.le_of_ble_eq_true rfl) hZ (fun X C R => ?_)
  show m_W G X YX3_init (216, false, 0, 0) μ 0 [some (vR 9 0)] []
  rw [obF_of (μ := μ) (o := 9) (f := fun _ => 0) (z 0)]
  refine m_aload_n C dX3_init_0 rfl ?_
  refine m_objI C dX3_init_1 wo_KilnBench_Image_3 wo_i wo_c (by decide) ?_
  refine m_aload_n C dX3_init_4 rfl ?_
  refine m_bipush C dX3_init_5 (by omega) ?_
  refine m_newa (a := 0) (len := 56) (w := 1) C (by decide) dX3_init_7 wa_0 rfl (by decide) rfl (by decide) (fun j => by rw [obF_ne (fun q => absurd q.2 (by decide))]; exact z 1 j) (Nat.le_of_ble_eq_true rfl) (Nat.le_of_ble_eq_true rfl) ?_
  refine m_putR (t := 9) (w := 1) (x := 100 * ((9 : Nat) : Int) + ((1 : Nat) : Int)) C dX3_init_9 fl_KilnBench_Image_11 (Or.inl ⟨rfl, rfl⟩) rfl (by decide +kernel) (Or.inr rfl) rfl rfl (by decide) (by decide) ?_
  rw [obF_up]
  refine m_aload_n C dX3_init_12 rfl ?_
  refine m_iconst C dX3_init_13 (by unfold in32; omega) ?_
  refine m_putI C dX3_init_14 fl_KilnBench_Image_15 (Or.inl ⟨rfl, rfl⟩) rfl (by decide +kernel) (Or.inr rfl) rfl ?_
  rw [obF_up]
  refine m_vret C R rfl dX3_init_17 (Nat.le_of_ble_eq_true rfl) (Nat.le_of_ble_eq_true rfl) ?_
  refine hK _ (fun a b c h => obF_ne h) (fun c hc => ?_)
  rw [obF_at]
  match c, hc with
  | 0, _ => rfl
  | 1, _ => rfl
set_option maxRecDepth 20000 in
def L_X1_init : List Int := [-1, 0, 100 * ((7 : Nat) : Int) + ((3 : Nat) : Int), -1, 100 * ((4 : Nat) : Int) + ((0 : Nat) : Int), 0, 0, 0, 0, 100 * ((7 : Nat) : Int) + ((10 : Nat) : Int), 100 * ((7 : Nat) : Int) + ((11 : Nat) : Int), 100 * ((7 : Nat) : Int) + ((12 : Nat) : Int), 100 * ((7 : Nat) : Int) + ((13 : Nat) : Int)]
theorem i_X1_init {G : m_G} {d : Nat} {μ : m_M} {K : Nat × Bool → m_M → Prop} (hZ : m_Zk G) (z : ∀ b c, μ 7 b c = 0) (hK : ∀ μ1, (∀ a b c, ¬ (a = 7 ∧ b = 0) → μ1 a b c = μ a b c) → (∀ c, c < 13 → μ1 7 0 c = L_X1_init.getD c 0) → K (212, false) μ1) : m_Cv G (d + 1) 5 452 YX1_init (207, false) [vR 7 0, vR 4 0] μ K := by
  refine m_enter (S := (207, false)) (by decide) (Nat.le_of_ble_eq_true rfl) hZ (fun X C R => ?_)
  show m_W G X YX1_init (207, false, 0, 0) μ 0 [some (vR 7 0), some (vR 4 0)] []
  rw [obF_of (μ := μ) (o := 7) (f := fun _ => 0) (z 0)]
  refine m_aload_n C dX1_init_0 rfl ?_
  refine m_objI C dX1_init_1 wo_KilnBench_BestSearch_3 wo_i wo_c (by decide) ?_
  refine m_aload_n C dX1_init_4 rfl ?_
  refine m_iconst C dX1_init_5 (by unfold in32; omega) ?_
  refine m_putI C dX1_init_6 fl_KilnBench_BestSearch_9 (Or.inl ⟨rfl, rfl⟩) rfl (by decide +kernel) (Or.inr rfl) rfl ?_
  rw [obF_up]
  refine m_aload_n C dX1_init_9 rfl ?_
  refine m_iconst C dX1_init_10 (by unfold in32; omega) ?_
  refine m_putI C dX1_init_11 fl_KilnBench_BestSearch_15 (Or.inl ⟨rfl, rfl⟩) rfl (by decide +kernel) (Or.inr rfl) rfl ?_
  rw [obF_up]
  refine m_aload_n C dX1_init_14 rfl ?_
  refine m_bipush C dX1_init_15 (by omega) ?_
  refine m_newa (a := 0) (len := 6) (w := 3) C (by decide) dX1_init_17 wa_0 rfl (by decide) rfl (by decide) (fun j => by rw [obF_ne (fun q => absurd q.2 (by decide))]; exact z 3 j) (Nat.le_of_ble_eq_true rfl) (Nat.le_of_ble_eq_true rfl) ?_
  refine m_putR (t := 7) (w := 3) (x := 100 * ((7 : Nat) : Int) + ((3 : Nat) : Int)) C dX1_init_19 fl_KilnBench_BestSearch_18 (Or.inl ⟨rfl, rfl⟩) rfl (by decide +kernel) (Or.inr rfl) rfl rfl (by decide) (by decide) ?_
  rw [obF_up]
  refine m_aload_n C dX1_init_22 rfl ?_
  refine m_iconst C dX1_init_23 (by unfold in32; omega) ?_
  refine m_putI C dX1_init_24 fl_KilnBench_BestSearch_22 (Or.inl ⟨rfl, rfl⟩) rfl (by decide +kernel) (Or.inr rfl) rfl ?_
  rw [obF_up]
  refine m_aload_n C dX1_init_27 rfl ?_
  refine m_iconst C dX1_init_28 (by unfold in32; omega) ?_
  refine m_putI C dX1_init_29 fl_KilnBench_BestSearch_25 (Or.inl ⟨rfl, rfl⟩) rfl (by decide +kernel) (Or.inr rfl) rfl ?_
  rw [obF_up]
  refine m_aload_n C dX1_init_32 rfl ?_
  refine m_iconst C dX1_init_33 (by unfold in32; omega) ?_
  refine m_putI C dX1_init_34 fl_KilnBench_BestSearch_28 (Or.inl ⟨rfl, rfl⟩) rfl (by decide +kernel) (Or.inr rfl) rfl ?_
  rw [obF_up]
  refine m_aload_n C dX1_init_37 rfl ?_
  refine m_iconst C dX1_init_38 (by unfold in32; omega) ?_
  refine m_putI C dX1_init_39 fl_KilnBench_BestSearch_31 (Or.inl ⟨rfl, rfl⟩) rfl (by decide +kernel) (Or.inr rfl) rfl ?_
  rw [obF_up]
  refine m_aload_n C dX1_init_42 rfl ?_
  refine m_iconst C dX1_init_43 (by unfold in32; omega) ?_
  refine m_putI C dX1_init_44 fl_KilnBench_BestSearch_34 (Or.inl ⟨rfl, rfl⟩) rfl (by decide +kernel) (Or.inr rfl) rfl ?_
  rw [obF_up]
  refine m_aload_n C dX1_init_47 rfl ?_
  refine m_bipush C dX1_init_48 (by omega) ?_
  refine m_newa (a := 0) (len := 6) (w := 10) C (by decide) dX1_init_50 wa_0 rfl (by decide) rfl (by decide) (fun j => by rw [obF_ne (fun q => absurd q.2 (by decide))]; exact z 10 j) (Nat.le_of_ble_eq_true rfl) (Nat.le_of_ble_eq_true rfl) ?_
  refine m_putR (t := 7) (w := 10) (x := 100 * ((7 : Nat) : Int) + ((10 : Nat) : Int)) C dX1_init_52 fl_KilnBench_BestSearch_37 (Or.inl ⟨rfl, rfl⟩) rfl (by decide +kernel) (Or.inr rfl) rfl rfl (by decide) (by decide) ?_
  rw [obF_up]
  refine m_aload_n C dX1_init_55 rfl ?_
  refine m_bipush C dX1_init_56 (by omega) ?_
  refine m_newa (a := 0) (len := 48) (w := 11) C (by decide) dX1_init_58 wa_0 rfl (by decide) rfl (by decide) (fun j => by rw [obF_ne (fun q => absurd q.2 (by decide))]; exact z 11 j) (Nat.le_of_ble_eq_true rfl) (Nat.le_of_ble_eq_true rfl) ?_
  refine m_putR (t := 7) (w := 11) (x := 100 * ((7 : Nat) : Int) + ((11 : Nat) : Int)) C dX1_init_60 fl_KilnBench_BestSearch_40 (Or.inl ⟨rfl, rfl⟩) rfl (by decide +kernel) (Or.inr rfl) rfl rfl (by decide) (by decide) ?_
  rw [obF_up]
  refine m_aload_n C dX1_init_63 rfl ?_
  refine m_bipush C dX1_init_64 (by omega) ?_
  refine m_newa (a := 0) (len := 8) (w := 12) C (by decide) dX1_init_66 wa_0 rfl (by decide) rfl (by decide) (fun j => by rw [obF_ne (fun q => absurd q.2 (by decide))]; exact z 12 j) (Nat.le_of_ble_eq_true rfl) (Nat.le_of_ble_eq_true rfl) ?_
  refine m_putR (t := 7) (w := 12) (x := 100 * ((7 : Nat) : Int) + ((12 : Nat) : Int)) C dX1_init_68 fl_KilnBench_BestSearch_43 (Or.inl ⟨rfl, rfl⟩) rfl (by decide +kernel) (Or.inr rfl) rfl rfl (by decide) (by decide) ?_
  rw [obF_up]
  refine m_aload_n C dX1_init_71 rfl ?_
  refine m_sipush C dX1_init_72 (by omega) ?_
  refine m_newa (a := 1) (len := 384) (w := 13) C (by decide) dX1_init_75 wa_1 rfl (by decide) rfl (by decide) (fun j => by rw [obF_ne (fun q => absurd q.2 (by decide))]; exact z 13 j) (Nat.le_of_ble_eq_true rfl) (Nat.le_of_ble_eq_true rfl) ?_
  refine m_putR (t := 7) (w := 13) (x := 100 * ((7 : Nat) : Int) + ((13 : Nat) : Int)) C dX1_init_77 fl_KilnBench_BestSearch_46 (Or.inl ⟨rfl, rfl⟩) rfl (by decide +kernel) (Or.inr rfl) rfl rfl (by decide) (by decide) ?_
  rw [obF_up]
  refine m_aload_n C dX1_init_80 rfl ?_
  refine m_aload_n C dX1_init_81 rfl ?_
  refine m_putR (t := 4) (w := 0) (x := 100 * ((4 : Nat) : Int) + ((0 : Nat) : Int)) C dX1_init_82 fl_KilnBench_BestSearch_50 (Or.inl ⟨rfl, rfl⟩) rfl (by decide +kernel) (Or.inr rfl) rfl rfl (by decide) (by decide) ?_
  rw [obF_up]
  refine m_vret C R rfl dX1_init_85 (Nat.le_of_ble_eq_true rfl) (Nat.le_of_ble_eq_true rfl) ?_
  refine hK _ (fun a b c h => obF_ne h) (fun c hc => ?_)
  rw [obF_at]
  match c, hc with
  | 0, _ => rfl
  | 1, _ => rfl
  | 2, _ => rfl
  | 3, _ => rfl
  | 4, _ => rfl
  | 5, _ => rfl
  | 6, _ => rfl
  | 7, _ => rfl
  | 8, _ => rfl
  | 9, _ => rfl
  | 10, _ => rfl
  | 11, _ => rfl
  | 12, _ => rfl
