/-! ===== the reference's constructor ===== -/
abbrev YX12_init : m_Y := (yX12_init, cX12_init, 2, none)
theorem wo_KilnBenchModel_1 : Cond.methodLink "KilnBenchModel" 1 Lib.objectInit ∈ m_w := m_mem 1223 (by decide +kernel) rfl
theorem wa_3 : Cond.arrayClass .long ∈ m_w := m_mem 1426 (by decide +kernel) rfl
theorem wa_2 : Cond.arrayClass .boolean ∈ m_w := m_mem 1427 (by decide +kernel) rfl
set_option maxRecDepth 20000 in
def L_X12_init : List Int := [100 * ((34 : Nat) : Int) + ((1 : Nat) : Int), 0, 0, 0, 0, 0, 0, 0, 0, -1, 0, -1, -1, 0, 100 * ((34 : Nat) : Int) + ((15 : Nat) : Int), 100 * ((34 : Nat) : Int) + ((16 : Nat) : Int), 100 * ((34 : Nat) : Int) + ((17 : Nat) : Int), 100 * ((34 : Nat) : Int) + ((18 : Nat) : Int), 100 * ((34 : Nat) : Int) + ((19 : Nat) : Int), 100 * ((34 : Nat) : Int) + ((20 : Nat) : Int), 100 * ((34 : Nat) : Int) + ((21 : Nat) : Int), 100 * ((34 : Nat) : Int) + ((22 : Nat) : Int), 100 * ((34 : Nat) : Int) + ((23 : Nat) : Int), 100 * ((34 : Nat) : Int) + ((24 : Nat) : Int), 100 * ((34 : Nat) : Int) + ((25 : Nat) : Int), 100 * ((34 : Nat) : Int) + ((26 : Nat) : Int), 100 * ((34 : Nat) : Int) + ((27 : Nat) : Int), 100 * ((34 : Nat) : Int) + ((28 : Nat) : Int), 0, 1, 0, 100 * ((34 : Nat) : Int) + ((32 : Nat) : Int), 100 * ((34 : Nat) : Int) + ((33 : Nat) : Int), 100 * ((34 : Nat) : Int) + ((34 : Nat) : Int), 100 * ((34 : Nat) : Int) + ((35 : Nat) : Int), 100 * ((34 : Nat) : Int) + ((36 : Nat) : Int), 0, 0, 100 * ((34 : Nat) : Int) + ((39 : Nat) : Int), 0, 0, 100 * ((34 : Nat) : Int) + ((42 : Nat) : Int), 100 * ((34 : Nat) : Int) + ((43 : Nat) : Int), 100 * ((34 : Nat) : Int) + ((44 : Nat) : Int), 100 * ((34 : Nat) : Int) + ((45 : Nat) : Int), 100 * ((34 : Nat) : Int) + ((46 : Nat) : Int), 100 * ((34 : Nat) : Int) + ((47 : Nat) : Int), 100 * ((34 : Nat) : Int) + ((48 : Nat) : Int), 100 * ((34 : Nat) : Int) + ((49 : Nat) : Int), 100 * ((34 : Nat) : Int) + ((50 : Nat) : Int), 100 * ((34 : Nat) : Int) + ((51 : Nat) : Int), 100 * ((34 : Nat) : Int) + ((52 : Nat) : Int), 0, 0, 1, 100 * ((34 : Nat) : Int) + ((56 : Nat) : Int), 100 * ((34 : Nat) : Int) + ((57 : Nat) : Int), 0, 100 * ((34 : Nat) : Int) + ((59 : Nat) : Int), 100 * ((34 : Nat) : Int) + ((60 : Nat) : Int), 0, 100 * ((34 : Nat) : Int) + ((62 : Nat) : Int), 100 * ((34 : Nat) : Int) + ((63 : Nat) : Int), 100 * ((34 : Nat) : Int) + ((64 : Nat) : Int), 100 * ((34 : Nat) : Int) + ((65 : Nat) : Int), 100 * ((34 : Nat) : Int) + ((66 : Nat) : Int), 0]
theorem i_X12_init {G : m_G} {d : Nat} {μ : m_M} {K : Nat × Bool → m_M → Prop} (hZ : m_Zk G) (z : ∀ b c, μ 34 b c = 0) (hK : ∀ μ1, (∀ a b c, ¬ (a = 34 ∧ (b = 0 ∨ b = 23 ∨ b = 50)) → μ1 a b c = μ a b c) → (∀ c, c < 67 → μ1 34 0 c = L_X12_init.getD c 0) → (∀ c, μ1 34 23 c = if c < 8 then -1 else 0) → (∀ c, μ1 34 50 c = if c < 3 then -1 else 0) → K (260, false) μ1) : m_Cv G (d + 1) 41 14005 YX12_init (219, false) [vR 34 0] μ K := by
  refine m_enter (S := (219, false)) (by decide) (Nat.le_of_ble_eq_true rfl) hZ (fun X C R => ?_)
  show m_W G X YX12_init (219, false, 0, 0) μ 0 [some (vR 34 0), none] []
  rw [obF_of (μ := μ) (o := 34) (f := fun _ => 0) (z 0)]
  refine m_aload_n C dX12_init_0 rfl ?_
  refine m_objI C dX12_init_1 wo_KilnBenchModel_1 wo_i wo_c (by decide) ?_
  refine m_aload_n C dX12_init_4 rfl ?_
  refine m_sipush C dX12_init_5 (by omega) ?_
  refine m_newa (a := 0) (len := 1800) (w := 1) C (by decide) dX12_init_8 wa_0 rfl (by decide) rfl (by decide) (fun j => by rw [obF_ne (fun q => absurd q.2 (by decide))]; exact z 1 j) (Nat.le_of_ble_eq_true rfl) (Nat.le_of_ble_eq_true rfl) ?_
  refine m_putR (t := 34) (w := 1) (x := 100 * ((34 : Nat) : Int) + ((1 : Nat) : Int)) C dX12_init_10 fl_KilnBenchModel_7 (Or.inl ⟨rfl, rfl⟩) rfl (by decide +kernel) (Or.inr rfl) rfl rfl (by decide) (by decide) ?_
  rw [obF_up]
  refine m_aload_n C dX12_init_13 rfl ?_
  refine m_iconst C dX12_init_14 (by unfold in32; omega) ?_
  refine m_putI C dX12_init_15 fl_KilnBenchModel_13 (Or.inl ⟨rfl, rfl⟩) rfl (by decide +kernel) (Or.inr rfl) rfl ?_
  rw [obF_up]
  refine m_aload_n C dX12_init_18 rfl ?_
  refine m_iconst C dX12_init_19 (by unfold in32; omega) ?_
  refine m_putI C dX12_init_20 fl_KilnBenchModel_17 (Or.inl ⟨rfl, rfl⟩) rfl (by decide +kernel) (Or.inr rfl) rfl ?_
  rw [obF_up]
  refine m_aload_n C dX12_init_23 rfl ?_
  refine m_iconst C dX12_init_24 (by unfold in32; omega) ?_
  refine m_putI C dX12_init_25 fl_KilnBenchModel_20 (Or.inl ⟨rfl, rfl⟩) rfl (by decide +kernel) (Or.inr rfl) rfl ?_
  rw [obF_up]
  refine m_aload_n C dX12_init_28 rfl ?_
  refine m_iconst C dX12_init_29 (by unfold in32; omega) ?_
  refine m_putI C dX12_init_30 fl_KilnBenchModel_23 (Or.inl ⟨rfl, rfl⟩) rfl (by decide +kernel) (Or.inr rfl) rfl ?_
  rw [obF_up]
  refine m_aload_n C dX12_init_33 rfl ?_
  refine m_iconst C dX12_init_34 (by unfold in32; omega) ?_
  refine m_putI C dX12_init_35 fl_KilnBenchModel_26 (Or.inl ⟨rfl, rfl⟩) rfl (by decide +kernel) (Or.inr rfl) rfl ?_
  rw [obF_up]
  refine m_aload_n C dX12_init_38 rfl ?_
  refine m_iconst C dX12_init_39 (by unfold in32; omega) ?_
  refine m_putI C dX12_init_40 fl_KilnBenchModel_29 (Or.inl ⟨rfl, rfl⟩) rfl (by decide +kernel) (Or.inr rfl) rfl ?_
  rw [obF_up]
  refine m_aload_n C dX12_init_43 rfl ?_
  refine m_lconst C dX12_init_44 (x := 0) rfl ?_
  refine m_putJ C dX12_init_45 fl_KilnBenchModel_32 (Or.inl ⟨rfl, rfl⟩) rfl (by decide +kernel) (Or.inr rfl) rfl ?_
  rw [obF_up]
  refine m_aload_n C dX12_init_48 rfl ?_
  refine m_iconst C dX12_init_49 (by unfold in32; omega) ?_
  refine m_putI C dX12_init_50 fl_KilnBenchModel_36 (Or.inl ⟨rfl, rfl⟩) rfl (by decide +kernel) (Or.inr rfl) rfl ?_
  rw [obF_up]
  refine m_aload_n C dX12_init_53 rfl ?_
  refine m_iconst C dX12_init_54 (by unfold in32; omega) ?_
  refine m_putI C dX12_init_55 fl_KilnBenchModel_39 (Or.inl ⟨rfl, rfl⟩) rfl (by decide +kernel) (Or.inr rfl) rfl ?_
  rw [obF_up]
  refine m_aload_n C dX12_init_58 rfl ?_
  refine m_iconst C dX12_init_59 (by unfold in32; omega) ?_
  refine m_putI C dX12_init_60 fl_KilnBenchModel_42 (Or.inl ⟨rfl, rfl⟩) rfl (by decide +kernel) (Or.inr rfl) rfl ?_
  rw [obF_up]
  refine m_aload_n C dX12_init_63 rfl ?_
  refine m_iconst C dX12_init_64 (by unfold in32; omega) ?_
  refine m_putI C dX12_init_65 fl_KilnBenchModel_45 (Or.inl ⟨rfl, rfl⟩) rfl (by decide +kernel) (Or.inr rfl) rfl ?_
  rw [obF_up]
  refine m_aload_n C dX12_init_68 rfl ?_
  refine m_iconst C dX12_init_69 (by unfold in32; omega) ?_
  refine m_putI C dX12_init_70 fl_KilnBenchModel_48 (Or.inl ⟨rfl, rfl⟩) rfl (by decide +kernel) (Or.inr rfl) rfl ?_
  rw [obF_up]
  refine m_aload_n C dX12_init_73 rfl ?_
  refine m_iconst C dX12_init_74 (by unfold in32; omega) ?_
  refine m_putI C dX12_init_75 fl_KilnBenchModel_51 (Or.inl ⟨rfl, rfl⟩) rfl (by decide +kernel) (Or.inr rfl) rfl ?_
  rw [obF_up]
  refine m_aload_n C dX12_init_78 rfl ?_
  refine m_iconst C dX12_init_79 (by unfold in32; omega) ?_
  refine m_newa (a := 0) (len := 2) (w := 15) C (by decide) dX12_init_80 wa_0 rfl (by decide) rfl (by decide) (fun j => by rw [obF_ne (fun q => absurd q.2 (by decide))]; exact z 15 j) (Nat.le_of_ble_eq_true rfl) (Nat.le_of_ble_eq_true rfl) ?_
  refine m_putR (t := 34) (w := 15) (x := 100 * ((34 : Nat) : Int) + ((15 : Nat) : Int)) C dX12_init_82 fl_KilnBenchModel_54 (Or.inl ⟨rfl, rfl⟩) rfl (by decide +kernel) (Or.inr rfl) rfl rfl (by decide) (by decide) ?_
  rw [obF_up]
  refine m_aload_n C dX12_init_85 rfl ?_
  refine m_bipush C dX12_init_86 (by omega) ?_
  refine m_newa (a := 0) (len := 16) (w := 16) C (by decide) dX12_init_88 wa_0 rfl (by decide) rfl (by decide) (fun j => by rw [obF_ne (fun q => absurd q.2 (by decide))]; exact z 16 j) (Nat.le_of_ble_eq_true rfl) (Nat.le_of_ble_eq_true rfl) ?_
  refine m_putR (t := 34) (w := 16) (x := 100 * ((34 : Nat) : Int) + ((16 : Nat) : Int)) C dX12_init_90 fl_KilnBenchModel_57 (Or.inl ⟨rfl, rfl⟩) rfl (by decide +kernel) (Or.inr rfl) rfl rfl (by decide) (by decide) ?_
  rw [obF_up]
  refine m_aload_n C dX12_init_93 rfl ?_
  refine m_bipush C dX12_init_94 (by omega) ?_
  refine m_newa (a := 0) (len := 16) (w := 17) C (by decide) dX12_init_96 wa_0 rfl (by decide) rfl (by decide) (fun j => by rw [obF_ne (fun q => absurd q.2 (by decide))]; exact z 17 j) (Nat.le_of_ble_eq_true rfl) (Nat.le_of_ble_eq_true rfl) ?_
  refine m_putR (t := 34) (w := 17) (x := 100 * ((34 : Nat) : Int) + ((17 : Nat) : Int)) C dX12_init_98 fl_KilnBenchModel_60 (Or.inl ⟨rfl, rfl⟩) rfl (by decide +kernel) (Or.inr rfl) rfl rfl (by decide) (by decide) ?_
  rw [obF_up]
  refine m_aload_n C dX12_init_101 rfl ?_
  refine m_iconst C dX12_init_102 (by unfold in32; omega) ?_
  refine m_newa (a := 0) (len := 2) (w := 18) C (by decide) dX12_init_103 wa_0 rfl (by decide) rfl (by decide) (fun j => by rw [obF_ne (fun q => absurd q.2 (by decide))]; exact z 18 j) (Nat.le_of_ble_eq_true rfl) (Nat.le_of_ble_eq_true rfl) ?_
  refine m_putR (t := 34) (w := 18) (x := 100 * ((34 : Nat) : Int) + ((18 : Nat) : Int)) C dX12_init_105 fl_KilnBenchModel_63 (Or.inl ⟨rfl, rfl⟩) rfl (by decide +kernel) (Or.inr rfl) rfl rfl (by decide) (by decide) ?_
  rw [obF_up]
  refine m_aload_n C dX12_init_108 rfl ?_
  refine m_bipush C dX12_init_109 (by omega) ?_
  refine m_newa (a := 0) (len := 6) (w := 19) C (by decide) dX12_init_111 wa_0 rfl (by decide) rfl (by decide) (fun j => by rw [obF_ne (fun q => absurd q.2 (by decide))]; exact z 19 j) (Nat.le_of_ble_eq_true rfl) (Nat.le_of_ble_eq_true rfl) ?_
  refine m_putR (t := 34) (w := 19) (x := 100 * ((34 : Nat) : Int) + ((19 : Nat) : Int)) C dX12_init_113 fl_KilnBenchModel_66 (Or.inl ⟨rfl, rfl⟩) rfl (by decide +kernel) (Or.inr rfl) rfl rfl (by decide) (by decide) ?_
  rw [obF_up]
  refine m_aload_n C dX12_init_116 rfl ?_
  refine m_iconst C dX12_init_117 (by unfold in32; omega) ?_
  refine m_newa (a := 0) (len := 2) (w := 20) C (by decide) dX12_init_118 wa_0 rfl (by decide) rfl (by decide) (fun j => by rw [obF_ne (fun q => absurd q.2 (by decide))]; exact z 20 j) (Nat.le_of_ble_eq_true rfl) (Nat.le_of_ble_eq_true rfl) ?_
  refine m_putR (t := 34) (w := 20) (x := 100 * ((34 : Nat) : Int) + ((20 : Nat) : Int)) C dX12_init_120 fl_KilnBenchModel_69 (Or.inl ⟨rfl, rfl⟩) rfl (by decide +kernel) (Or.inr rfl) rfl rfl (by decide) (by decide) ?_
  rw [obF_up]
  refine m_aload_n C dX12_init_123 rfl ?_
  refine m_iconst C dX12_init_124 (by unfold in32; omega) ?_
  refine m_newa (a := 0) (len := 2) (w := 21) C (by decide) dX12_init_125 wa_0 rfl (by decide) rfl (by decide) (fun j => by rw [obF_ne (fun q => absurd q.2 (by decide))]; exact z 21 j) (Nat.le_of_ble_eq_true rfl) (Nat.le_of_ble_eq_true rfl) ?_
  refine m_putR (t := 34) (w := 21) (x := 100 * ((34 : Nat) : Int) + ((21 : Nat) : Int)) C dX12_init_127 fl_KilnBenchModel_72 (Or.inl ⟨rfl, rfl⟩) rfl (by decide +kernel) (Or.inr rfl) rfl rfl (by decide) (by decide) ?_
  rw [obF_up]
  refine m_aload_n C dX12_init_130 rfl ?_
  refine m_iconst C dX12_init_131 (by unfold in32; omega) ?_
  refine m_newa (a := 0) (len := 2) (w := 22) C (by decide) dX12_init_132 wa_0 rfl (by decide) rfl (by decide) (fun j => by rw [obF_ne (fun q => absurd q.2 (by decide))]; exact z 22 j) (Nat.le_of_ble_eq_true rfl) (Nat.le_of_ble_eq_true rfl) ?_
  refine m_putR (t := 34) (w := 22) (x := 100 * ((34 : Nat) : Int) + ((22 : Nat) : Int)) C dX12_init_134 fl_KilnBenchModel_75 (Or.inl ⟨rfl, rfl⟩) rfl (by decide +kernel) (Or.inr rfl) rfl rfl (by decide) (by decide) ?_
  rw [obF_up]
  refine m_aload_n C dX12_init_137 rfl ?_
  refine m_bipush C dX12_init_138 (by omega) ?_
  refine m_newa (a := 0) (len := 8) (w := 23) C (by decide) dX12_init_140 wa_0 rfl (by decide) rfl (by decide) (fun j => by rw [obF_ne (fun q => absurd q.2 (by decide))]; exact z 23 j) (Nat.le_of_ble_eq_true rfl) (Nat.le_of_ble_eq_true rfl) ?_
  refine m_putR (t := 34) (w := 23) (x := 100 * ((34 : Nat) : Int) + ((23 : Nat) : Int)) C dX12_init_142 fl_KilnBenchModel_78 (Or.inl ⟨rfl, rfl⟩) rfl (by decide +kernel) (Or.inr rfl) rfl rfl (by decide) (by decide) ?_
  rw [obF_up]
  refine m_aload_n C dX12_init_145 rfl ?_
  refine m_bipush C dX12_init_146 (by omega) ?_
  refine m_newa (a := 0) (len := 8) (w := 24) C (by decide) dX12_init_148 wa_0 rfl (by decide) rfl (by decide) (fun j => by rw [obF_ne (fun q => absurd q.2 (by decide))]; exact z 24 j) (Nat.le_of_ble_eq_true rfl) (Nat.le_of_ble_eq_true rfl) ?_
  refine m_putR (t := 34) (w := 24) (x := 100 * ((34 : Nat) : Int) + ((24 : Nat) : Int)) C dX12_init_150 fl_KilnBenchModel_81 (Or.inl ⟨rfl, rfl⟩) rfl (by decide +kernel) (Or.inr rfl) rfl rfl (by decide) (by decide) ?_
  rw [obF_up]
  refine m_aload_n C dX12_init_153 rfl ?_
  refine m_sipush C dX12_init_154 (by omega) ?_
  refine m_newa (a := 0) (len := 3200) (w := 25) C (by decide) dX12_init_157 wa_0 rfl (by decide) rfl (by decide) (fun j => by rw [obF_ne (fun q => absurd q.2 (by decide))]; exact z 25 j) (Nat.le_of_ble_eq_true rfl) (Nat.le_of_ble_eq_true rfl) ?_
  refine m_putR (t := 34) (w := 25) (x := 100 * ((34 : Nat) : Int) + ((25 : Nat) : Int)) C dX12_init_159 fl_KilnBenchModel_84 (Or.inl ⟨rfl, rfl⟩) rfl (by decide +kernel) (Or.inr rfl) rfl rfl (by decide) (by decide) ?_
  rw [obF_up]
  refine m_aload_n C dX12_init_162 rfl ?_
  refine m_sipush C dX12_init_163 (by omega) ?_
  refine m_newa (a := 0) (len := 3200) (w := 26) C (by decide) dX12_init_166 wa_0 rfl (by decide) rfl (by decide) (fun j => by rw [obF_ne (fun q => absurd q.2 (by decide))]; exact z 26 j) (Nat.le_of_ble_eq_true rfl) (Nat.le_of_ble_eq_true rfl) ?_
  refine m_putR (t := 34) (w := 26) (x := 100 * ((34 : Nat) : Int) + ((26 : Nat) : Int)) C dX12_init_168 fl_KilnBenchModel_87 (Or.inl ⟨rfl, rfl⟩) rfl (by decide +kernel) (Or.inr rfl) rfl rfl (by decide) (by decide) ?_
  rw [obF_up]
  refine m_aload_n C dX12_init_171 rfl ?_
  refine m_bipush C dX12_init_172 (by omega) ?_
  refine m_newa (a := 3) (len := 16) (w := 27) C (by decide) dX12_init_174 wa_3 rfl (by decide) rfl (by decide) (fun j => by rw [obF_ne (fun q => absurd q.2 (by decide))]; exact z 27 j) (Nat.le_of_ble_eq_true rfl) (Nat.le_of_ble_eq_true rfl) ?_
  refine m_putR (t := 34) (w := 27) (x := 100 * ((34 : Nat) : Int) + ((27 : Nat) : Int)) C dX12_init_176 fl_KilnBenchModel_90 (Or.inl ⟨rfl, rfl⟩) rfl (by decide +kernel) (Or.inr rfl) rfl rfl (by decide) (by decide) ?_
  rw [obF_up]
  refine m_aload_n C dX12_init_179 rfl ?_
  refine m_bipush C dX12_init_180 (by omega) ?_
  refine m_newa (a := 3) (len := 6) (w := 28) C (by decide) dX12_init_182 wa_3 rfl (by decide) rfl (by decide) (fun j => by rw [obF_ne (fun q => absurd q.2 (by decide))]; exact z 28 j) (Nat.le_of_ble_eq_true rfl) (Nat.le_of_ble_eq_true rfl) ?_
  refine m_putR (t := 34) (w := 28) (x := 100 * ((34 : Nat) : Int) + ((28 : Nat) : Int)) C dX12_init_184 fl_KilnBenchModel_94 (Or.inl ⟨rfl, rfl⟩) rfl (by decide +kernel) (Or.inr rfl) rfl rfl (by decide) (by decide) ?_
  rw [obF_up]
  refine m_aload_n C dX12_init_187 rfl ?_
  refine m_iconst C dX12_init_188 (by unfold in32; omega) ?_
  refine m_putI C dX12_init_189 fl_KilnBenchModel_97 (Or.inl ⟨rfl, rfl⟩) rfl (by decide +kernel) (Or.inr rfl) rfl ?_
  rw [obF_up]
  refine m_aload_n C dX12_init_192 rfl ?_
  refine m_iconst C dX12_init_193 (by unfold in32; omega) ?_
  refine m_putI C dX12_init_194 fl_KilnBenchModel_100 (Or.inl ⟨rfl, rfl⟩) rfl (by decide +kernel) (Or.inr rfl) rfl ?_
  rw [obF_up]
  refine m_aload_n C dX12_init_197 rfl ?_
  refine m_iconst C dX12_init_198 (by unfold in32; omega) ?_
  refine m_putI C dX12_init_199 fl_KilnBenchModel_103 (Or.inl ⟨rfl, rfl⟩) rfl (by decide +kernel) (Or.inr rfl) rfl ?_
  rw [obF_up]
  refine m_aload_n C dX12_init_202 rfl ?_
  refine m_bipush C dX12_init_203 (by omega) ?_
  refine m_newa (a := 0) (len := 20) (w := 32) C (by decide) dX12_init_205 wa_0 rfl (by decide) rfl (by decide) (fun j => by rw [obF_ne (fun q => absurd q.2 (by decide))]; exact z 32 j) (Nat.le_of_ble_eq_true rfl) (Nat.le_of_ble_eq_true rfl) ?_
  refine m_putR (t := 34) (w := 32) (x := 100 * ((34 : Nat) : Int) + ((32 : Nat) : Int)) C dX12_init_207 fl_KilnBenchModel_106 (Or.inl ⟨rfl, rfl⟩) rfl (by decide +kernel) (Or.inr rfl) rfl rfl (by decide) (by decide) ?_
  rw [obF_up]
  refine m_aload_n C dX12_init_210 rfl ?_
  refine m_bipush C dX12_init_211 (by omega) ?_
  refine m_newa (a := 0) (len := 20) (w := 33) C (by decide) dX12_init_213 wa_0 rfl (by decide) rfl (by decide) (fun j => by rw [obF_ne (fun q => absurd q.2 (by decide))]; exact z 33 j) (Nat.le_of_ble_eq_true rfl) (Nat.le_of_ble_eq_true rfl) ?_
  refine m_putR (t := 34) (w := 33) (x := 100 * ((34 : Nat) : Int) + ((33 : Nat) : Int)) C dX12_init_215 fl_KilnBenchModel_109 (Or.inl ⟨rfl, rfl⟩) rfl (by decide +kernel) (Or.inr rfl) rfl rfl (by decide) (by decide) ?_
  rw [obF_up]
  refine m_aload_n C dX12_init_218 rfl ?_
  refine m_bipush C dX12_init_219 (by omega) ?_
  refine m_newa (a := 2) (len := 20) (w := 34) C (by decide) dX12_init_221 wa_2 rfl (by decide) rfl (by decide) (fun j => by rw [obF_ne (fun q => absurd q.2 (by decide))]; exact z 34 j) (Nat.le_of_ble_eq_true rfl) (Nat.le_of_ble_eq_true rfl) ?_
  refine m_putR (t := 34) (w := 34) (x := 100 * ((34 : Nat) : Int) + ((34 : Nat) : Int)) C dX12_init_223 fl_KilnBenchModel_112 (Or.inl ⟨rfl, rfl⟩) rfl (by decide +kernel) (Or.inr rfl) rfl rfl (by decide) (by decide) ?_
  rw [obF_up]
  refine m_aload_n C dX12_init_226 rfl ?_
  refine m_bipush C dX12_init_227 (by omega) ?_
  refine m_newa (a := 0) (len := 20) (w := 35) C (by decide) dX12_init_229 wa_0 rfl (by decide) rfl (by decide) (fun j => by rw [obF_ne (fun q => absurd q.2 (by decide))]; exact z 35 j) (Nat.le_of_ble_eq_true rfl) (Nat.le_of_ble_eq_true rfl) ?_
  refine m_putR (t := 34) (w := 35) (x := 100 * ((34 : Nat) : Int) + ((35 : Nat) : Int)) C dX12_init_231 fl_KilnBenchModel_116 (Or.inl ⟨rfl, rfl⟩) rfl (by decide +kernel) (Or.inr rfl) rfl rfl (by decide) (by decide) ?_
  rw [obF_up]
  refine m_aload_n C dX12_init_234 rfl ?_
  refine m_bipush C dX12_init_235 (by omega) ?_
  refine m_newa (a := 0) (len := 20) (w := 36) C (by decide) dX12_init_237 wa_0 rfl (by decide) rfl (by decide) (fun j => by rw [obF_ne (fun q => absurd q.2 (by decide))]; exact z 36 j) (Nat.le_of_ble_eq_true rfl) (Nat.le_of_ble_eq_true rfl) ?_
  refine m_putR (t := 34) (w := 36) (x := 100 * ((34 : Nat) : Int) + ((36 : Nat) : Int)) C dX12_init_239 fl_KilnBenchModel_119 (Or.inl ⟨rfl, rfl⟩) rfl (by decide +kernel) (Or.inr rfl) rfl rfl (by decide) (by decide) ?_
  rw [obF_up]
  refine m_aload_n C dX12_init_242 rfl ?_
  refine m_iconst C dX12_init_243 (by unfold in32; omega) ?_
  refine m_putI C dX12_init_244 fl_KilnBenchModel_122 (Or.inl ⟨rfl, rfl⟩) rfl (by decide +kernel) (Or.inr rfl) rfl ?_
  rw [obF_up]
  refine m_aload_n C dX12_init_247 rfl ?_
  refine m_iconst C dX12_init_248 (by unfold in32; omega) ?_
  refine m_putI C dX12_init_249 fl_KilnBenchModel_125 (Or.inl ⟨rfl, rfl⟩) rfl (by decide +kernel) (Or.inr rfl) rfl ?_
  rw [obF_up]
  refine m_aload_n C dX12_init_252 rfl ?_
  refine m_sipush C dX12_init_253 (by omega) ?_
  refine m_newa (a := 0) (len := 500) (w := 39) C (by decide) dX12_init_256 wa_0 rfl (by decide) rfl (by decide) (fun j => by rw [obF_ne (fun q => absurd q.2 (by decide))]; exact z 39 j) (Nat.le_of_ble_eq_true rfl) (Nat.le_of_ble_eq_true rfl) ?_
  refine m_putR (t := 34) (w := 39) (x := 100 * ((34 : Nat) : Int) + ((39 : Nat) : Int)) C dX12_init_258 fl_KilnBenchModel_128 (Or.inl ⟨rfl, rfl⟩) rfl (by decide +kernel) (Or.inr rfl) rfl rfl (by decide) (by decide) ?_
  rw [obF_up]
  refine m_aload_n C dX12_init_261 rfl ?_
  refine m_iconst C dX12_init_262 (by unfold in32; omega) ?_
  refine m_putI C dX12_init_263 fl_KilnBenchModel_131 (Or.inl ⟨rfl, rfl⟩) rfl (by decide +kernel) (Or.inr rfl) rfl ?_
  rw [obF_up]
  refine m_aload_n C dX12_init_266 rfl ?_
  refine m_iconst C dX12_init_267 (by unfold in32; omega) ?_
  refine m_putZ C dX12_init_268 fl_KilnBenchModel_134 (Or.inl ⟨rfl, rfl⟩) rfl (by decide +kernel) (Or.inr rfl) rfl (by decide) ?_
  rw [obF_up]
  refine m_aload_n C dX12_init_271 rfl ?_
  refine m_bipush C dX12_init_272 (by omega) ?_
  refine m_newa (a := 0) (len := 6) (w := 42) C (by decide) dX12_init_274 wa_0 rfl (by decide) rfl (by decide) (fun j => by rw [obF_ne (fun q => absurd q.2 (by decide))]; exact z 42 j) (Nat.le_of_ble_eq_true rfl) (Nat.le_of_ble_eq_true rfl) ?_
  refine m_putR (t := 34) (w := 42) (x := 100 * ((34 : Nat) : Int) + ((42 : Nat) : Int)) C dX12_init_276 fl_KilnBenchModel_138 (Or.inl ⟨rfl, rfl⟩) rfl (by decide +kernel) (Or.inr rfl) rfl rfl (by decide) (by decide) ?_
  rw [obF_up]
  refine m_aload_n C dX12_init_279 rfl ?_
  refine m_bipush C dX12_init_280 (by omega) ?_
  refine m_newa (a := 0) (len := 22) (w := 43) C (by decide) dX12_init_282 wa_0 rfl (by decide) rfl (by decide) (fun j => by rw [obF_ne (fun q => absurd q.2 (by decide))]; exact z 43 j) (Nat.le_of_ble_eq_true rfl) (Nat.le_of_ble_eq_true rfl) ?_
  refine m_putR (t := 34) (w := 43) (x := 100 * ((34 : Nat) : Int) + ((43 : Nat) : Int)) C dX12_init_284 fl_KilnBenchModel_141 (Or.inl ⟨rfl, rfl⟩) rfl (by decide +kernel) (Or.inr rfl) rfl rfl (by decide) (by decide) ?_
  rw [obF_up]
  refine m_aload_n C dX12_init_287 rfl ?_
  refine m_bipush C dX12_init_288 (by omega) ?_
  refine m_newa (a := 0) (len := 22) (w := 44) C (by decide) dX12_init_290 wa_0 rfl (by decide) rfl (by decide) (fun j => by rw [obF_ne (fun q => absurd q.2 (by decide))]; exact z 44 j) (Nat.le_of_ble_eq_true rfl) (Nat.le_of_ble_eq_true rfl) ?_
  refine m_putR (t := 34) (w := 44) (x := 100 * ((34 : Nat) : Int) + ((44 : Nat) : Int)) C dX12_init_292 fl_KilnBenchModel_144 (Or.inl ⟨rfl, rfl⟩) rfl (by decide +kernel) (Or.inr rfl) rfl rfl (by decide) (by decide) ?_
  rw [obF_up]
  refine m_aload_n C dX12_init_295 rfl ?_
  refine m_sipush C dX12_init_296 (by omega) ?_
  refine m_newa (a := 0) (len := 176) (w := 45) C (by decide) dX12_init_299 wa_0 rfl (by decide) rfl (by decide) (fun j => by rw [obF_ne (fun q => absurd q.2 (by decide))]; exact z 45 j) (Nat.le_of_ble_eq_true rfl) (Nat.le_of_ble_eq_true rfl) ?_
  refine m_putR (t := 34) (w := 45) (x := 100 * ((34 : Nat) : Int) + ((45 : Nat) : Int)) C dX12_init_301 fl_KilnBenchModel_147 (Or.inl ⟨rfl, rfl⟩) rfl (by decide +kernel) (Or.inr rfl) rfl rfl (by decide) (by decide) ?_
  rw [obF_up]
  refine m_aload_n C dX12_init_304 rfl ?_
  refine m_sipush C dX12_init_305 (by omega) ?_
  refine m_newa (a := 0) (len := 176) (w := 46) C (by decide) dX12_init_308 wa_0 rfl (by decide) rfl (by decide) (fun j => by rw [obF_ne (fun q => absurd q.2 (by decide))]; exact z 46 j) (Nat.le_of_ble_eq_true rfl) (Nat.le_of_ble_eq_true rfl) ?_
  refine m_putR (t := 34) (w := 46) (x := 100 * ((34 : Nat) : Int) + ((46 : Nat) : Int)) C dX12_init_310 fl_KilnBenchModel_150 (Or.inl ⟨rfl, rfl⟩) rfl (by decide +kernel) (Or.inr rfl) rfl rfl (by decide) (by decide) ?_
  rw [obF_up]
  refine m_aload_n C dX12_init_313 rfl ?_
  refine m_sipush C dX12_init_314 (by omega) ?_
  refine m_newa (a := 0) (len := 176) (w := 47) C (by decide) dX12_init_317 wa_0 rfl (by decide) rfl (by decide) (fun j => by rw [obF_ne (fun q => absurd q.2 (by decide))]; exact z 47 j) (Nat.le_of_ble_eq_true rfl) (Nat.le_of_ble_eq_true rfl) ?_
  refine m_putR (t := 34) (w := 47) (x := 100 * ((34 : Nat) : Int) + ((47 : Nat) : Int)) C dX12_init_319 fl_KilnBenchModel_153 (Or.inl ⟨rfl, rfl⟩) rfl (by decide +kernel) (Or.inr rfl) rfl rfl (by decide) (by decide) ?_
  rw [obF_up]
  refine m_aload_n C dX12_init_322 rfl ?_
  refine m_sipush C dX12_init_323 (by omega) ?_
  refine m_newa (a := 0) (len := 176) (w := 48) C (by decide) dX12_init_326 wa_0 rfl (by decide) rfl (by decide) (fun j => by rw [obF_ne (fun q => absurd q.2 (by decide))]; exact z 48 j) (Nat.le_of_ble_eq_true rfl) (Nat.le_of_ble_eq_true rfl) ?_
  refine m_putR (t := 34) (w := 48) (x := 100 * ((34 : Nat) : Int) + ((48 : Nat) : Int)) C dX12_init_328 fl_KilnBenchModel_156 (Or.inl ⟨rfl, rfl⟩) rfl (by decide +kernel) (Or.inr rfl) rfl rfl (by decide) (by decide) ?_
  rw [obF_up]
  refine m_aload_n C dX12_init_331 rfl ?_
  refine m_bipush C dX12_init_332 (by omega) ?_
  refine m_newa (a := 0) (len := 22) (w := 49) C (by decide) dX12_init_334 wa_0 rfl (by decide) rfl (by decide) (fun j => by rw [obF_ne (fun q => absurd q.2 (by decide))]; exact z 49 j) (Nat.le_of_ble_eq_true rfl) (Nat.le_of_ble_eq_true rfl) ?_
  refine m_putR (t := 34) (w := 49) (x := 100 * ((34 : Nat) : Int) + ((49 : Nat) : Int)) C dX12_init_336 fl_KilnBenchModel_159 (Or.inl ⟨rfl, rfl⟩) rfl (by decide +kernel) (Or.inr rfl) rfl rfl (by decide) (by decide) ?_
  rw [obF_up]
  refine m_aload_n C dX12_init_339 rfl ?_
  refine m_bipush C dX12_init_340 (by omega) ?_
  refine m_newa (a := 0) (len := 66) (w := 50) C (by decide) dX12_init_342 wa_0 rfl (by decide) rfl (by decide) (fun j => by rw [obF_ne (fun q => absurd q.2 (by decide))]; exact z 50 j) (Nat.le_of_ble_eq_true rfl) (Nat.le_of_ble_eq_true rfl) ?_
  refine m_putR (t := 34) (w := 50) (x := 100 * ((34 : Nat) : Int) + ((50 : Nat) : Int)) C dX12_init_344 fl_KilnBenchModel_162 (Or.inl ⟨rfl, rfl⟩) rfl (by decide +kernel) (Or.inr rfl) rfl rfl (by decide) (by decide) ?_
  rw [obF_up]
  refine m_aload_n C dX12_init_347 rfl ?_
  refine m_bipush C dX12_init_348 (by omega) ?_
  refine m_newa (a := 0) (len := 22) (w := 51) C (by decide) dX12_init_350 wa_0 rfl (by decide) rfl (by decide) (fun j => by rw [obF_ne (fun q => absurd q.2 (by decide))]; exact z 51 j) (Nat.le_of_ble_eq_true rfl) (Nat.le_of_ble_eq_true rfl) ?_
  refine m_putR (t := 34) (w := 51) (x := 100 * ((34 : Nat) : Int) + ((51 : Nat) : Int)) C dX12_init_352 fl_KilnBenchModel_165 (Or.inl ⟨rfl, rfl⟩) rfl (by decide +kernel) (Or.inr rfl) rfl rfl (by decide) (by decide) ?_
  rw [obF_up]
  refine m_aload_n C dX12_init_355 rfl ?_
  refine m_sipush C dX12_init_356 (by omega) ?_
  refine m_newa (a := 0) (len := 3520) (w := 52) C (by decide) dX12_init_359 wa_0 rfl (by decide) rfl (by decide) (fun j => by rw [obF_ne (fun q => absurd q.2 (by decide))]; exact z 52 j) (Nat.le_of_ble_eq_true rfl) (Nat.le_of_ble_eq_true rfl) ?_
  refine m_putR (t := 34) (w := 52) (x := 100 * ((34 : Nat) : Int) + ((52 : Nat) : Int)) C dX12_init_361 fl_KilnBenchModel_168 (Or.inl ⟨rfl, rfl⟩) rfl (by decide +kernel) (Or.inr rfl) rfl rfl (by decide) (by decide) ?_
  rw [obF_up]
  refine m_aload_n C dX12_init_364 rfl ?_
  refine m_iconst C dX12_init_365 (by unfold in32; omega) ?_
  refine m_putI C dX12_init_366 fl_KilnBenchModel_171 (Or.inl ⟨rfl, rfl⟩) rfl (by decide +kernel) (Or.inr rfl) rfl ?_
  rw [obF_up]
  refine m_aload_n C dX12_init_369 rfl ?_
  refine m_iconst C dX12_init_370 (by unfold in32; omega) ?_
  refine m_putI C dX12_init_371 fl_KilnBenchModel_174 (Or.inl ⟨rfl, rfl⟩) rfl (by decide +kernel) (Or.inr rfl) rfl ?_
  rw [obF_up]
  refine m_aload_n C dX12_init_374 rfl ?_
  refine m_lconst C dX12_init_375 (x := 1) rfl ?_
  refine m_putJ C dX12_init_376 fl_KilnBenchModel_177 (Or.inl ⟨rfl, rfl⟩) rfl (by decide +kernel) (Or.inr rfl) rfl ?_
  rw [obF_up]
  refine m_aload_n C dX12_init_379 rfl ?_
  refine m_sipush C dX12_init_380 (by omega) ?_
  refine m_newa (a := 3) (len := 500) (w := 56) C (by decide) dX12_init_383 wa_3 rfl (by decide) rfl (by decide) (fun j => by rw [obF_ne (fun q => absurd q.2 (by decide))]; exact z 56 j) (Nat.le_of_ble_eq_true rfl) (Nat.le_of_ble_eq_true rfl) ?_
  refine m_putR (t := 34) (w := 56) (x := 100 * ((34 : Nat) : Int) + ((56 : Nat) : Int)) C dX12_init_385 fl_KilnBenchModel_180 (Or.inl ⟨rfl, rfl⟩) rfl (by decide +kernel) (Or.inr rfl) rfl rfl (by decide) (by decide) ?_
  rw [obF_up]
  refine m_aload_n C dX12_init_388 rfl ?_
  refine m_bipush C dX12_init_389 (by omega) ?_
  refine m_newa (a := 0) (len := 14) (w := 57) C (by decide) dX12_init_391 wa_0 rfl (by decide) rfl (by decide) (fun j => by rw [obF_ne (fun q => absurd q.2 (by decide))]; exact z 57 j) (Nat.le_of_ble_eq_true rfl) (Nat.le_of_ble_eq_true rfl) ?_
  refine m_putR (t := 34) (w := 57) (x := 100 * ((34 : Nat) : Int) + ((57 : Nat) : Int)) C dX12_init_393 fl_KilnBenchModel_183 (Or.inl ⟨rfl, rfl⟩) rfl (by decide +kernel) (Or.inr rfl) rfl rfl (by decide) (by decide) ?_
  rw [obF_up]
  refine m_aload_n C dX12_init_396 rfl ?_
  refine m_iconst C dX12_init_397 (by unfold in32; omega) ?_
  refine m_putI C dX12_init_398 fl_KilnBenchModel_186 (Or.inl ⟨rfl, rfl⟩) rfl (by decide +kernel) (Or.inr rfl) rfl ?_
  rw [obF_up]
  refine m_aload_n C dX12_init_401 rfl ?_
  refine m_bipush C dX12_init_402 (by omega) ?_
  refine m_newa (a := 0) (len := 7) (w := 59) C (by decide) dX12_init_404 wa_0 rfl (by decide) rfl (by decide) (fun j => by rw [obF_ne (fun q => absurd q.2 (by decide))]; exact z 59 j) (Nat.le_of_ble_eq_true rfl) (Nat.le_of_ble_eq_true rfl) ?_
  refine m_putR (t := 34) (w := 59) (x := 100 * ((34 : Nat) : Int) + ((59 : Nat) : Int)) C dX12_init_406 fl_KilnBenchModel_189 (Or.inl ⟨rfl, rfl⟩) rfl (by decide +kernel) (Or.inr rfl) rfl rfl (by decide) (by decide) ?_
  rw [obF_up]
  refine m_aload_n C dX12_init_409 rfl ?_
  refine m_bipush C dX12_init_410 (by omega) ?_
  refine m_newa (a := 0) (len := 6) (w := 60) C (by decide) dX12_init_412 wa_0 rfl (by decide) rfl (by decide) (fun j => by rw [obF_ne (fun q => absurd q.2 (by decide))]; exact z 60 j) (Nat.le_of_ble_eq_true rfl) (Nat.le_of_ble_eq_true rfl) ?_
  refine m_putR (t := 34) (w := 60) (x := 100 * ((34 : Nat) : Int) + ((60 : Nat) : Int)) C dX12_init_414 fl_KilnBenchModel_192 (Or.inl ⟨rfl, rfl⟩) rfl (by decide +kernel) (Or.inr rfl) rfl rfl (by decide) (by decide) ?_
  rw [obF_up]
  refine m_aload_n C dX12_init_417 rfl ?_
  refine m_iconst C dX12_init_418 (by unfold in32; omega) ?_
  refine m_putI C dX12_init_419 fl_KilnBenchModel_195 (Or.inl ⟨rfl, rfl⟩) rfl (by decide +kernel) (Or.inr rfl) rfl ?_
  rw [obF_up]
  refine m_aload_n C dX12_init_422 rfl ?_
  refine m_bipush C dX12_init_423 (by omega) ?_
  refine m_newa (a := 0) (len := 16) (w := 62) C (by decide) dX12_init_425 wa_0 rfl (by decide) rfl (by decide) (fun j => by rw [obF_ne (fun q => absurd q.2 (by decide))]; exact z 62 j) (Nat.le_of_ble_eq_true rfl) (Nat.le_of_ble_eq_true rfl) ?_
  refine m_putR (t := 34) (w := 62) (x := 100 * ((34 : Nat) : Int) + ((62 : Nat) : Int)) C dX12_init_427 fl_KilnBenchModel_198 (Or.inl ⟨rfl, rfl⟩) rfl (by decide +kernel) (Or.inr rfl) rfl rfl (by decide) (by decide) ?_
  rw [obF_up]
  refine m_aload_n C dX12_init_430 rfl ?_
  refine m_bipush C dX12_init_431 (by omega) ?_
  refine m_newa (a := 0) (len := 16) (w := 63) C (by decide) dX12_init_433 wa_0 rfl (by decide) rfl (by decide) (fun j => by rw [obF_ne (fun q => absurd q.2 (by decide))]; exact z 63 j) (Nat.le_of_ble_eq_true rfl) (Nat.le_of_ble_eq_true rfl) ?_
  refine m_putR (t := 34) (w := 63) (x := 100 * ((34 : Nat) : Int) + ((63 : Nat) : Int)) C dX12_init_435 fl_KilnBenchModel_201 (Or.inl ⟨rfl, rfl⟩) rfl (by decide +kernel) (Or.inr rfl) rfl rfl (by decide) (by decide) ?_
  rw [obF_up]
  refine m_aload_n C dX12_init_438 rfl ?_
  refine m_bipush C dX12_init_439 (by omega) ?_
  refine m_newa (a := 0) (len := 16) (w := 64) C (by decide) dX12_init_441 wa_0 rfl (by decide) rfl (by decide) (fun j => by rw [obF_ne (fun q => absurd q.2 (by decide))]; exact z 64 j) (Nat.le_of_ble_eq_true rfl) (Nat.le_of_ble_eq_true rfl) ?_
  refine m_putR (t := 34) (w := 64) (x := 100 * ((34 : Nat) : Int) + ((64 : Nat) : Int)) C dX12_init_443 fl_KilnBenchModel_204 (Or.inl ⟨rfl, rfl⟩) rfl (by decide +kernel) (Or.inr rfl) rfl rfl (by decide) (by decide) ?_
  rw [obF_up]
  refine m_aload_n C dX12_init_446 rfl ?_
  refine m_bipush C dX12_init_447 (by omega) ?_
  refine m_newa (a := 0) (len := 100) (w := 65) C (by decide) dX12_init_449 wa_0 rfl (by decide) rfl (by decide) (fun j => by rw [obF_ne (fun q => absurd q.2 (by decide))]; exact z 65 j) (Nat.le_of_ble_eq_true rfl) (Nat.le_of_ble_eq_true rfl) ?_
  refine m_putR (t := 34) (w := 65) (x := 100 * ((34 : Nat) : Int) + ((65 : Nat) : Int)) C dX12_init_451 fl_KilnBenchModel_207 (Or.inl ⟨rfl, rfl⟩) rfl (by decide +kernel) (Or.inr rfl) rfl rfl (by decide) (by decide) ?_
  rw [obF_up]
  refine m_aload_n C dX12_init_454 rfl ?_
  refine m_bipush C dX12_init_455 (by omega) ?_
  refine m_newa (a := 0) (len := 60) (w := 66) C (by decide) dX12_init_457 wa_0 rfl (by decide) rfl (by decide) (fun j => by rw [obF_ne (fun q => absurd q.2 (by decide))]; exact z 66 j) (Nat.le_of_ble_eq_true rfl) (Nat.le_of_ble_eq_true rfl) ?_
  refine m_putR (t := 34) (w := 66) (x := 100 * ((34 : Nat) : Int) + ((66 : Nat) : Int)) C dX12_init_459 fl_KilnBenchModel_210 (Or.inl ⟨rfl, rfl⟩) rfl (by decide +kernel) (Or.inr rfl) rfl rfl (by decide) (by decide) ?_
  rw [obF_up]
  refine m_aload_n C dX12_init_462 rfl ?_
  refine m_iconst C dX12_init_463 (by unfold in32; omega) ?_
  refine m_putI C dX12_init_464 fl_KilnBenchModel_213 (Or.inl ⟨rfl, rfl⟩) rfl (by decide +kernel) (Or.inr rfl) rfl ?_
  rw [obF_up]
  refine m_gen (fun μ2 hμ2 => ?_)
  have v2 : ∀ c, c < 67 → μ2 34 0 c = L_X12_init.getD c 0 := fun c hc => by
    rw [hμ2, obF_at]
    match c, hc with
    | 0, _ => rfl
    | 1, _ => rfl
    | 2, _ => rfl
    | 3, _ => rfl
    | 4, _ => rfl
    | 5, _ => rfl
    | 6, _ => rfl
    | 7, _ => rfl
    | 8, _ => rfl
    | 9, _ => rfl
    | 10, _ => rfl
    | 11, _ => rfl
    | 12, _ => rfl
    | 13, _ => rfl
    | 14, _ => rfl
    | 15, _ => rfl
    | 16, _ => rfl
    | 17, _ => rfl
    | 18, _ => rfl
    | 19, _ => rfl
    | 20, _ => rfl
    | 21, _ => rfl
    | 22, _ => rfl
    | 23, _ => rfl
    | 24, _ => rfl
    | 25, _ => rfl
    | 26, _ => rfl
    | 27, _ => rfl
    | 28, _ => rfl
    | 29, _ => rfl
    | 30, _ => rfl
    | 31, _ => rfl
    | 32, _ => rfl
    | 33, _ => rfl
    | 34, _ => rfl
    | 35, _ => rfl
    | 36, _ => rfl
    | 37, _ => rfl
    | 38, _ => rfl
    | 39, _ => rfl
    | 40, _ => rfl
    | 41, _ => rfl
    | 42, _ => rfl
    | 43, _ => rfl
    | 44, _ => rfl
    | 45, _ => rfl
    | 46, _ => rfl
    | 47, _ => rfl
    | 48, _ => rfl
    | 49, _ => rfl
    | 50, _ => rfl
    | 51, _ => rfl
    | 52, _ => rfl
    | 53, _ => rfl
    | 54, _ => rfl
    | 55, _ => rfl
    | 56, _ => rfl
    | 57, _ => rfl
    | 58, _ => rfl
    | 59, _ => rfl
    | 60, _ => rfl
    | 61, _ => rfl
    | 62, _ => rfl
    | 63, _ => rfl
    | 64, _ => rfl
    | 65, _ => rfl
    | 66, _ => rfl
    | c + 67, h => exact absurd h (by omega)
  have f2 : ∀ a b c, ¬ (a = 34 ∧ b = 0) → μ2 a b c = μ a b c := fun a b c h => by rw [hμ2, obF_ne h]
  clear hμ2
  refine m_iconst C dX12_init_467 (by unfold in32; omega) ?_
  refine m_istore_n C dX12_init_468 (by decide) ?_
  have at490 : ∀ r i : Nat, i + r = 3 → ∀ μ1 : m_M, (∀ a b c, ¬ (a = 34 ∧ (b = 23 ∨ b = 50)) → μ1 a b c = μ2 a b c) → (∀ c, μ1 34 23 c = if c < 8 then -1 else 0) → (∀ c, μ1 34 50 c = if c < i then -1 else 0) → m_W G X YX12_init (260, false, 41, 14005) μ1 490 [some (vR 34 0), some (vI (i : Int))] [] := by
    intro r
    induction r with
    | zero =>
      intro i hi μ1 g1 a1 b1
      have hi : i = 3 := by omega
      subst hi
      refine m_iload_n C dX12_init_490 rfl ?_
      refine m_iconst C dX12_init_491 (by unfold in32; omega) ?_
      refine m_icmp_ge C dX12_init_492 (tgt := 508) rfl (fun _ => ?_) (fun q => absurd (by decide) q)
      refine m_vret C R rfl dX12_init_508 (Nat.le_of_ble_eq_true rfl) (Nat.le_of_ble_eq_true rfl) (hK μ1 (fun a b c h => ?_) (fun c hc => ?_) a1 b1)
      · rw [g1 a b c (by omega), f2 a b c (by omega)]
      · rw [g1 34 0 c (by omega)]; exact v2 c hc
    | succ r ih =>
      intro i hi μ1 g1 a1 b1
      refine m_iload_n C dX12_init_490 rfl ?_
      refine m_iconst C dX12_init_491 (by unfold in32; omega) ?_
      refine m_icmp_ge C dX12_init_492 (tgt := 508) rfl (fun q => absurd q (by omega)) (fun _ => ?_)
      refine m_aload_n C dX12_init_495 rfl ?_
      refine m_getR (t := 34) (w := 50) C dX12_init_496 fl_KilnBenchModel_162 rfl (by decide +kernel) rfl (by rw [g1 34 0 49 (by omega)]; exact v2 49 (by decide)) (by decide) (by decide) ?_
      refine m_iload_n C dX12_init_499 rfl ?_
      refine m_iconst C dX12_init_500 (by unfold in32; omega) ?_
      refine m_iast C dX12_init_501 (by decide +kernel) (by decide) (len := 66) rfl (by omega) (by omega) ?_
      refine m_iinc C dX12_init_502 rfl (by decide) ?_
      refine m_goto C dX12_init_505 (tgt := 490) rfl ?_
      rw [Int.toNat_natCast, w32_s (by omega)]
      refine ih (i + 1) (by omega) _ (fun a b c h => by rw [m_up_ne _ _ (by omega)]; exact g1 a b c h) (fun c => by rw [m_up_ne _ _ (by omega)]; exact a1 c) (fun c => ?_)
      by_cases y : c = i
      · subst y; rw [m_up_at, if_pos (by omega)]
      · rw [m_up_ne _ _ (by omega), b1 c]
        by_cases y2 : c < i
        · rw [if_pos y2, if_pos (by omega)]
        · rw [if_neg y2, if_neg (by omega)]
  have at469 : ∀ r i : Nat, i + r = 8 → ∀ μ1 : m_M, (∀ a b c, ¬ (a = 34 ∧ b = 23) → μ1 a b c = μ2 a b c) → (∀ c, μ1 34 23 c = if c < i then -1 else 0) → m_W G X YX12_init (260, false, 41, 14005) μ1 469 [some (vR 34 0), some (vI (i : Int))] [] := by
    intro r
    induction r with
    | zero =>
      intro i hi μ1 g1 a1
      have hi : i = 8 := by omega
      subst hi
      refine m_iload_n C dX12_init_469 rfl ?_
      refine m_bipush C dX12_init_470 (by omega) ?_
      refine m_icmp_ge C dX12_init_472 (tgt := 488) rfl (fun _ => ?_) (fun q => absurd (by decide) q)
      refine m_iconst C dX12_init_488 (by unfold in32; omega) ?_
      refine m_istore_n C dX12_init_489 (by decide) ?_
      exact at490 3 0 (by omega) μ1 (fun a b c h => g1 a b c (by omega)) a1 (fun c => by rw [g1 34 50 c (by omega), f2 34 50 c (by omega), z]; rfl)
    | succ r ih =>
      intro i hi μ1 g1 a1
      refine m_iload_n C dX12_init_469 rfl ?_
      refine m_bipush C dX12_init_470 (by omega) ?_
      refine m_icmp_ge C dX12_init_472 (tgt := 488) rfl (fun q => absurd q (by omega)) (fun _ => ?_)
      refine m_aload_n C dX12_init_475 rfl ?_
      refine m_getR (t := 34) (w := 23) C dX12_init_476 fl_KilnBenchModel_78 rfl (by decide +kernel) rfl (by rw [g1 34 0 22 (by omega)]; exact v2 22 (by decide)) (by decide) (by decide) ?_
      refine m_iload_n C dX12_init_479 rfl ?_
      refine m_iconst C dX12_init_480 (by unfold in32; omega) ?_
      refine m_iast C dX12_init_481 (by decide +kernel) (by decide) (len := 8) rfl (by omega) (by omega) ?_
      refine m_iinc C dX12_init_482 rfl (by decide) ?_
      refine m_goto C dX12_init_485 (tgt := 469) rfl ?_
      rw [Int.toNat_natCast, w32_s (by omega)]
      refine ih (i + 1) (by omega) _ (fun a b c h => by rw [m_up_ne _ _ (by omega)]; exact g1 a b c h) (fun c => ?_)
      by_cases y : c = i
      · subst y; rw [m_up_at, if_pos (by omega)]
      · rw [m_up_ne _ _ (by omega), a1 c]
        by_cases y2 : c < i
        · rw [if_pos y2, if_pos (by omega)]
        · rw [if_neg y2, if_neg (by omega)]
  exact at469 8 0 (by omega) μ2 (fun _ _ _ _ => rfl) (fun c => by rw [f2 34 23 c (by omega), z]; rfl)
