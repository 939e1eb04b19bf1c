/-! ===== the constructors of laws, parser, history ===== -/
abbrev YX4_init : m_Y := (yX4_init, cX4_init, 2, none)
abbrev YX6_init : m_Y := (yX6_init, cX6_init, 2, none)
abbrev YX2_init : m_Y := (yX2_init, cX2_init, 2, none)
theorem wc_KilnBench_Laws_9 : Cond.classLink "KilnBench$Laws" 9 "KilnBench$Machine" ∈ m_w := m_mem 334 (by decide +kernel) rfl
theorem wi_KilnBench_Machine : Cond.instantiable "KilnBench$Machine" 2 ∈ m_w := m_mem 335 (by decide +kernel) rfl
theorem wn_KilnBench_Machine : Cond.initialized "KilnBench$Machine" ∈ m_w := m_mem 118 (by decide +kernel) rfl
theorem co_X5_init : m_co YX5_init := ⟨m_mem 338 (by decide +kernel) rfl, m_mem 118 (by decide +kernel) rfl, by decide⟩
theorem li_KilnBench_Laws_11 : m_LI "KilnBench$Laws" 11 YX5_init 0 := ⟨co_X5_init, ⟨by decide, by decide, by decide +kernel⟩, Or.inr (by decide +kernel), m_mem 337 (by decide +kernel) rfl, rfl, rfl⟩
theorem wo_KilnBench_Laws_3 : Cond.methodLink "KilnBench$Laws" 3 Lib.objectInit ∈ m_w := m_mem 333 (by decide +kernel) rfl
theorem wc_KilnBench_Parser_9 : Cond.classLink "KilnBench$Parser" 9 "KilnBench$Reader" ∈ m_w := m_mem 225 (by decide +kernel) rfl
theorem wi_KilnBench_Reader : Cond.instantiable "KilnBench$Reader" 9 ∈ m_w := m_mem 226 (by decide +kernel) rfl
theorem wn_KilnBench_Reader : Cond.initialized "KilnBench$Reader" ∈ m_w := m_mem 112 (by decide +kernel) rfl
theorem co_X7_init : m_co YX7_init := ⟨m_mem 229 (by decide +kernel) rfl, m_mem 112 (by decide +kernel) rfl, by decide⟩
theorem li_KilnBench_Parser_11 : m_LI "KilnBench$Parser" 11 YX7_init 0 := ⟨co_X7_init, ⟨by decide, by decide, by decide +kernel⟩, Or.inl (m_mem 227 (by decide +kernel) rfl), m_mem 228 (by decide +kernel) rfl, rfl, rfl⟩
theorem wo_KilnBench_Parser_3 : Cond.methodLink "KilnBench$Parser" 3 Lib.objectInit ∈ m_w := m_mem 224 (by decide +kernel) rfl
theorem wc_KilnBench_History_9 : Cond.classLink "KilnBench$History" 9 "KilnBench$Bench" ∈ m_w := m_mem 423 (by decide +kernel) rfl
theorem wi_KilnBench_Bench : Cond.instantiable "KilnBench$Bench" 10 ∈ m_w := m_mem 358 (by decide +kernel) rfl
theorem wn_KilnBench_Bench : Cond.initialized "KilnBench$Bench" ∈ m_w := m_mem 119 (by decide +kernel) rfl
theorem co_X0_init : m_co YX0_init := ⟨m_mem 361 (by decide +kernel) rfl, m_mem 119 (by decide +kernel) rfl, by decide⟩
theorem li_KilnBench_History_24 : m_LI "KilnBench$History" 24 YX0_init 0 := ⟨co_X0_init, ⟨by decide, by decide, by decide +kernel⟩, Or.inr (by decide +kernel), m_mem 360 (by decide +kernel) rfl, rfl, rfl⟩
theorem wo_KilnBench_History_3 : Cond.methodLink "KilnBench$History" 3 Lib.objectInit ∈ m_w := m_mem 422 (by decide +kernel) rfl
set_option maxRecDepth 20000 in
def L_X4_init : List Int := [100 * ((32 : Nat) : Int) + ((0 : Nat) : Int), 100 * ((5 : Nat) : Int) + ((0 : Nat) : Int)]
theorem i_X4_init {G : m_G} {d : Nat} {μ : m_M} {K : Nat × Bool → m_M → Prop} (hZ : m_Zk G) (z4 : ∀ b c, μ 4 b c = 0) (z5 : ∀ b c, μ 5 b c = 0) (hK : ∀ μ1, (∀ a b c, ¬ ((a = 4 ∨ a = 5) ∧ b = 0) → μ1 a b c = μ a b c) → (∀ c, c < 2 → μ1 4 0 c = L_X4_init.getD c 0) → (∀ c, c < 2 → μ1 5 0 c = L_X5_init.getD c 0) → K (28, false) μ1) : m_Cv G (d + 2) 3 92 YX4_init (25, false) [vR 4 0, vR 32 0] μ K := by
  refine m_enter (S := (25, false)) (by decide) (Nat.le_of_ble_eq_true rfl) hZ (fun X C R => ?_)
  show m_W G X YX4_init (25, false, 0, 0) μ 0 [some (vR 4 0), some (vR 32 0)] []
  rw [obF_of (μ := μ) (o := 4) (f := fun _ => 0) (z4 0)]
  refine m_aload_n C dX4_init_0 rfl ?_
  refine m_objI C dX4_init_1 wo_KilnBench_Laws_3 wo_i wo_c (by decide) ?_
  refine m_aload_n C dX4_init_4 rfl ?_
  refine m_new (o := 5) C dX4_init_5 rfl wc_KilnBench_Laws_9 wi_KilnBench_Machine wn_KilnBench_Machine rfl (fun j => by rw [obF_ne (by decide)]; exact z5 0 j) (Nat.le_of_ble_eq_true rfl) (Nat.le_of_ble_eq_true rfl) ?_
  refine m_dup C dX4_init_8 rfl ?_
  refine m_callI (As := []) (o := 5) (st := [vR 5 0, vR 4 0]) (mc1 := 2) (ms1 := 90) (K := fun S1 μ1 => S1 = (28, false) ∧ (∀ a b c, ¬ (a = 5 ∧ b = 0) → μ1 a b c = m_obF μ 4 (fun _ => 0) a b c) ∧ (∀ c, c < 2 → μ1 5 0 c = L_X5_init.getD c 0)) C dX4_init_9 li_KilnBench_Laws_11 rfl rfl (by decide) (Nat.le_of_ble_eq_true rfl) (Nat.le_of_ble_eq_true rfl) (i_X5_init hZ (fun b c => by rw [obF_ne (by omega)]; exact z5 b c) (fun μ1 f v => ⟨rfl, f, v⟩)) (fun S1 μ1 hk => ?_)
  obtain ⟨rfl, fN, vN⟩ := hk
  have e4 := fun c => (fN 4 0 c (by omega)).trans obF_at
  rw [obF_of e4]
  refine m_putR (t := 5) (w := 0) (x := 100 * ((5 : Nat) : Int) + ((0 : Nat) : Int)) C dX4_init_12 fl_KilnBench_Laws_12 (Or.inl ⟨rfl, rfl⟩) rfl (by decide +kernel) (Or.inr rfl) rfl rfl (by decide) (by decide) ?_
  rw [obF_up]
  refine m_aload_n C dX4_init_15 rfl ?_
  refine m_aload_n C dX4_init_16 rfl ?_
  refine m_putR (t := 32) (w := 0) (x := 100 * ((32 : Nat) : Int) + ((0 : Nat) : Int)) C dX4_init_17 fl_KilnBench_Laws_18 (Or.inl ⟨rfl, rfl⟩) rfl (by decide +kernel) (Or.inr rfl) rfl rfl (by decide) (by decide) ?_
  rw [obF_up]
  refine m_vret C R rfl dX4_init_20 (Nat.le_of_ble_eq_true rfl) (Nat.le_of_ble_eq_true rfl) ?_
  refine hK _ (fun a b c h => ?_) (fun c hc => ?_) (fun c hc => ?_)
  · rw [obF_ne (by omega), fN a b c (by omega), obF_ne (by omega)]
  · rw [obF_at]
    match c, hc with
    | 0, _ => rfl
    | 1, _ => rfl
  · rw [obF_ne (by omega)]; exact vN c hc
def L_X6_init : List Int := [100 * ((3 : Nat) : Int) + ((0 : Nat) : Int), 100 * ((33 : Nat) : Int) + ((0 : Nat) : Int), 0, 0]
theorem i_X6_init {G : m_G} {d aS aV : Nat} {vF : Value} {μ : m_M} {K : Nat × Bool → m_M → Prop} (hZ : m_Zk G) (hZe : G.2.2.2.2.2.1 = t_Z (m_A G) aS aV vF) (hvF : vF = .null ∨ ∃ a, vF = .ref a) (z2 : ∀ b c, μ 2 b c = 0) (z3 : ∀ b c, μ 3 b c = 0) (hK : ∀ μ1, (∀ a b c, ¬ (a = 2 ∧ b = 0) → ¬ (a = 3 ∧ (b = 0 ∨ b = 1)) → μ1 a b c = μ a b c) → (∀ c, c < 4 → μ1 2 0 c = L_X6_init.getD c 0) → (∀ c, c < 9 → μ1 3 0 c = L_X7_init.getD c 0) → (∀ i, i < 26 → μ1 3 1 i = ownL.getD i 0) → K (24, false) μ1) : m_Cv G (d + 5) 3 35 YX6_init (21, false) [vR 2 0, vR 33 0] μ K := by
  refine m_enter (S := (21, false)) (by decide) (Nat.le_of_ble_eq_true rfl) hZ (fun X C R => ?_)
  show m_W G X YX6_init (21, false, 0, 0) μ 0 [some (vR 2 0), some (vR 33 0)] []
  rw [obF_of (μ := μ) (o := 2) (f := fun _ => 0) (z2 0)]
  refine m_aload_n C dX6_init_0 rfl ?_
  refine m_objI C dX6_init_1 wo_KilnBench_Parser_3 wo_i wo_c (by decide) ?_
  refine m_aload_n C dX6_init_4 rfl ?_
  refine m_new (o := 3) C dX6_init_5 rfl wc_KilnBench_Parser_9 wi_KilnBench_Reader wn_KilnBench_Reader rfl (fun j => by rw [obF_ne (by decide)]; exact z3 0 j) (Nat.le_of_ble_eq_true rfl) (Nat.le_of_ble_eq_true rfl) ?_
  refine m_dup C dX6_init_8 rfl ?_
  refine m_callI (As := []) (o := 3) (st := [vR 3 0, vR 2 0]) (mc1 := 2) (ms1 := 26) (K := fun S1 μ1 => S1 = (24, false) ∧ (∀ a b c, ¬ (a = 3 ∧ (b = 0 ∨ b = 1)) → μ1 a b c = m_obF μ 2 (fun _ => 0) a b c) ∧ (∀ c, c < 9 → μ1 3 0 c = L_X7_init.getD c 0) ∧ (∀ i, i < 26 → μ1 3 1 i = ownL.getD i 0)) C dX6_init_9 li_KilnBench_Parser_11 rfl rfl (by decide) (Nat.le_of_ble_eq_true rfl) (Nat.le_of_ble_eq_true rfl) (i_X7_init hZ hZe hvF (fun b c => by rw [obF_ne (by omega)]; exact z3 b c) (fun μ1 f v w => ⟨rfl, f, v, w⟩)) (fun S1 μ1 hk => ?_)
  obtain ⟨rfl, fN, vN, wN⟩ := hk
  have e4 := fun c => (fN 2 0 c (by omega)).trans obF_at
  rw [obF_of e4]
  refine m_putR (t := 3) (w := 0) (x := 100 * ((3 : Nat) : Int) + ((0 : Nat) : Int)) C dX6_init_12 fl_KilnBench_Parser_12 (Or.inl ⟨rfl, rfl⟩) rfl (by decide +kernel) (Or.inr rfl) rfl rfl (by decide) (by decide) ?_
  rw [obF_up]
  refine m_aload_n C dX6_init_15 rfl ?_
  refine m_iconst C dX6_init_16 (by unfold in32; omega) ?_
  refine m_putI C dX6_init_17 fl_KilnBench_Parser_18 (Or.inl ⟨rfl, rfl⟩) rfl (by decide +kernel) (Or.inr rfl) rfl ?_
  rw [obF_up]
  refine m_aload_n C dX6_init_20 rfl ?_
  refine m_iconst C dX6_init_21 (by unfold in32; omega) ?_
  refine m_putI C dX6_init_22 fl_KilnBench_Parser_22 (Or.inl ⟨rfl, rfl⟩) rfl (by decide +kernel) (Or.inr rfl) rfl ?_
  rw [obF_up]
  refine m_aload_n C dX6_init_25 rfl ?_
  refine m_aload_n C dX6_init_26 rfl ?_
  refine m_putR (t := 33) (w := 0) (x := 100 * ((33 : Nat) : Int) + ((0 : Nat) : Int)) C dX6_init_27 fl_KilnBench_Parser_25 (Or.inl ⟨rfl, rfl⟩) rfl (by decide +kernel) (Or.inr rfl) rfl rfl (by decide) (by decide) ?_
  rw [obF_up]
  refine m_vret C R rfl dX6_init_30 (Nat.le_of_ble_eq_true rfl) (Nat.le_of_ble_eq_true rfl) ?_
  refine hK _ (fun a b c h h2 => ?_) (fun c hc => ?_) (fun c hc => ?_) (fun i hi => ?_)
  · rw [obF_ne h, fN a b c h2, obF_ne h]
  · rw [obF_at]
    match c, hc with
    | 0, _ => rfl
    | 1, _ => rfl
    | 2, _ => rfl
    | 3, _ => rfl
  · rw [obF_ne (by omega)]; exact vN c hc
  · rw [obF_ne (by omega)]; exact wN i hi
theorem e_B : ∀ i, i < 20 → m_E[46 + 8 * i]? = some (12 + i, 0) ∧ m_E[46 + 8 * i + 1]? = some (12 + i, 3) ∧ m_E[46 + 8 * i + 1 + 1]? = some (12 + i, 4) ∧ m_E[46 + 8 * i + 1 + 2]? = some (12 + i, 5) ∧ m_E[46 + 8 * i + 1 + 3]? = some (12 + i, 6) ∧ m_E[46 + 8 * i + 1 + 4]? = some (12 + i, 7) ∧ m_E[46 + 8 * i + 1 + 5]? = some (12 + i, 8) ∧ m_E[46 + 8 * i + 1 + 6]? = some (12 + i, 9) := by decide +kernel
def L_X2_init : List Int := [100 * ((6 : Nat) : Int) + ((1 : Nat) : Int), 0, 0]
/-- the benches of the past, as far as they are made -/
def PB (μ μ1 : m_M) (i : Nat) : Prop := (∀ a b c, ¬ (a = 6 ∧ b = 1) → ¬ (12 ≤ a ∧ a < 12 + i ∧ b = 0) → μ1 a b c = μ a b c) ∧ (∀ j : Nat, j < i → μ1 6 1 j = 1200 + 100 * (j : Int)) ∧ ∀ j, j < i → ∀ c, c < 10 → μ1 (12 + j) 0 c = (L_X0_init (12 + j)).getD c 0
theorem i_X2_init {G : m_G} {d : Nat} {μ : m_M} {K : Nat × Bool → m_M → Prop} (hZ : m_Zk G) (z6 : ∀ b c, μ 6 b c = 0) (zp : ∀ a b c, 12 ≤ a → a < 32 → μ a b c = 0) (hK : ∀ μ1, (∀ a b c, ¬ (a = 6 ∧ (b = 0 ∨ b = 1)) → ¬ (12 ≤ a ∧ a < 32 ∧ b = 0) → μ1 a b c = μ a b c) → (∀ c, c < 3 → μ1 6 0 c = L_X2_init.getD c 0) → (∀ j : Nat, j < 20 → μ1 6 1 j = 1200 + 100 * (j : Int)) → (∀ j, j < 20 → ∀ c, c < 10 → μ1 (12 + j) 0 c = (L_X0_init (12 + j)).getD c 0) → K (206, false) μ1) : m_Cv G (d + 2) 161 1720 YX2_init (45, false) [vR 6 0] μ K := by
  refine m_enter (S := (45, false)) (by decide) (Nat.le_of_ble_eq_true rfl) hZ (fun X C R => ?_)
  show m_W G X YX2_init (45, false, 0, 0) μ 0 [some (vR 6 0), none] []
  rw [obF_of (μ := μ) (o := 6) (f := fun _ => 0) (z6 0)]
  refine m_aload_n C dX2_init_0 rfl ?_
  refine m_objI C dX2_init_1 wo_KilnBench_History_3 wo_i wo_c (by decide) ?_
  refine m_aload_n C dX2_init_4 rfl ?_
  refine m_bipush C dX2_init_5 (by omega) ?_
  refine m_newq (o := 6) (w := 1) (len := 20) C dX2_init_7 wc_KilnBench_History_9 rfl (by decide) rfl (by decide) (fun j => by rw [obF_ne (by omega)]; exact z6 1 j) (Nat.le_of_ble_eq_true rfl) (Nat.le_of_ble_eq_true rfl) ?_
  refine m_putR (t := 6) (w := 1) (x := 100 * ((6 : Nat) : Int) + ((1 : Nat) : Int)) C dX2_init_10 fl_KilnBench_History_11 (Or.inl ⟨rfl, rfl⟩) rfl (by decide +kernel) (Or.inr rfl) rfl rfl (by decide) (by decide) ?_
  rw [obF_up]
  refine m_aload_n C dX2_init_13 rfl ?_
  refine m_iconst C dX2_init_14 (by unfold in32; omega) ?_
  refine m_putI C dX2_init_15 fl_KilnBench_History_17 (Or.inl ⟨rfl, rfl⟩) rfl (by decide +kernel) (Or.inr rfl) rfl ?_
  rw [obF_up]
  refine m_aload_n C dX2_init_18 rfl ?_
  refine m_iconst C dX2_init_19 (by unfold in32; omega) ?_
  refine m_putI C dX2_init_20 fl_KilnBench_History_21 (Or.inl ⟨rfl, rfl⟩) rfl (by decide +kernel) (Or.inr rfl) rfl ?_
  rw [obF_up]
  refine m_gen (fun μ2 hμ2 => ?_)
  have v2 : ∀ c, c < 3 → μ2 6 0 c = L_X2_init.getD c 0 := fun c hc => by
    rw [hμ2, obF_at]
    match c, hc with
    | 0, _ => rfl
    | 1, _ => rfl
    | 2, _ => rfl
  have f2 : ∀ a b c, ¬ (a = 6 ∧ b = 0) → μ2 a b c = μ a b c := fun a b c h => by rw [hμ2, obF_ne h]
  clear hμ2
  refine m_iconst C dX2_init_23 (by unfold in32; omega) ?_
  refine m_istore_n C dX2_init_24 (by decide) ?_
  have LL : ∀ r i : Nat, i + r = 20 → ∀ μ1 : m_M, PB μ2 μ1 i → m_W G X YX2_init (46 + 8 * i, false, 1 + 8 * i, 20 + 85 * i) μ1 25 [some (vR 6 0), some (vI (i : Int))] [] := by
    intro r
    induction r with
    | zero =>
      intro i hi μ1 ⟨p1, p2, p3⟩
      have hi : i = 20 := by omega
      subst hi
      have e60 : μ1 6 0 0 = 100 * ((6 : Nat) : Int) + ((1 : Nat) : Int) := by rw [p1 6 0 0 (by omega) (by omega)]; exact v2 0 (by decide)
      refine m_iload_n C dX2_init_25 rfl ?_
      refine m_aload_n C dX2_init_26 rfl ?_
      refine m_getR (t := 6) (w := 1) C dX2_init_27 fl_KilnBench_History_11 rfl (by decide +kernel) rfl e60 (by decide) (by decide) ?_
      refine m_alen C dX2_init_30 (by decide +kernel) (by decide) (a := 4) (len := 20) rfl (by decide) (by decide) ?_
      refine m_icmp_ge C dX2_init_31 (tgt := 53) rfl (fun _ => ?_) (fun q => absurd (by decide) q)
      refine m_vret C R rfl dX2_init_53 (Nat.le_of_ble_eq_true rfl) (Nat.le_of_ble_eq_true rfl) ?_
      refine hK μ1 (fun a b c h h2 => ?_) (fun c hc => ?_) p2 p3
      · rw [p1 a b c (by omega) (by omega), f2 a b c (by omega)]
      · rw [p1 6 0 c (by omega) (by omega)]; exact v2 c hc
    | succ r ih =>
      intro i hi μ1 ⟨p1, p2, p3⟩
      obtain ⟨e0, e1, e2, e3, e4, e5, e6, e7⟩ := e_B i (by omega)
      have e60 : μ1 6 0 0 = 100 * ((6 : Nat) : Int) + ((1 : Nat) : Int) := by rw [p1 6 0 0 (by omega) (by omega)]; exact v2 0 (by decide)
      have x6 : ∀ n, 46 ≤ n → m_E.idxOf (6, 0) < n := fun n hn => Nat.lt_of_lt_of_le (by decide +kernel : m_E.idxOf (6, 0) < 46) hn
      have x61 : ∀ n, 46 ≤ n → m_E.idxOf (6, 1) < n := fun n hn => Nat.lt_of_lt_of_le (by decide +kernel : m_E.idxOf (6, 1) < 46) hn
      have hc0 := past_cls i (by omega)
      refine m_iload_n C dX2_init_25 rfl ?_
      refine m_aload_n C dX2_init_26 rfl ?_
      refine m_getR (t := 6) (w := 1) C dX2_init_27 fl_KilnBench_History_11 rfl (x6 _ (Nat.le_add_right _ _)) rfl e60 (by decide) (by decide) ?_
      refine m_alen C dX2_init_30 (x61 _ (Nat.le_add_right _ _)) (by decide) (a := 4) (len := 20) rfl (by decide) (by decide) ?_
      refine m_icmp_ge C dX2_init_31 (tgt := 53) rfl (fun q => absurd q (by omega)) (fun _ => ?_)
      refine m_aload_n C dX2_init_34 rfl ?_
      refine m_getR (t := 6) (w := 1) C dX2_init_35 fl_KilnBench_History_11 rfl (x6 _ (Nat.le_add_right _ _)) rfl e60 (by decide) (by decide) ?_
      refine m_iload_n C dX2_init_38 rfl ?_
      refine m_new (o := 12 + i) C dX2_init_39 (by rw [hc0]; rfl) wc_KilnBench_History_9 wi_KilnBench_Bench wn_KilnBench_Bench e0 (fun j => by rw [p1 (12 + i) 0 j (by omega) (by omega), f2 (12 + i) 0 j (by omega)]; exact zp (12 + i) 0 j (by omega) (by omega)) (by omega) (by omega) ?_
      refine m_dup C dX2_init_42 rfl ?_
      refine m_callI (As := []) (o := 12 + i) (st := [vR (12 + i) 0, vI (i : Int), vR 6 1]) (mc1 := 7) (ms1 := 75) (K := fun S1 μ3 => S1 = (46 + 8 * i + 1 + 7, false) ∧ (∀ a b c, ¬ (a = 12 + i ∧ b = 0) → μ3 a b c = μ1 a b c) ∧ (∀ c, c < 10 → μ3 (12 + i) 0 c = (L_X0_init (12 + i)).getD c 0)) C dX2_init_43 li_KilnBench_History_24 rfl rfl (Nat.le_of_ble_eq_true rfl) (by show 1 + 8 * i + 1 + 7 ≤ 161; omega) (by show 20 + 85 * i + 10 + 75 ≤ 1720; omega) (i_X0_init hZ hc0 (by rw [m_E_ix e0]; exact Nat.lt_succ_self _) e1 e2 e3 e4 e5 e6 e7 (fun b c => by rw [p1 (12 + i) b c (by omega) (by omega), f2 (12 + i) b c (by omega)]; exact zp (12 + i) b c (by omega) (by omega)) (fun μ3 f v => ⟨rfl, f, v⟩)) (fun S1 μ3 hk => ?_)
      obtain ⟨rfl, fN, vN⟩ := hk
      refine m_aast (len := 20) C dX2_init_46 (x61 _ (by show 46 ≤ 46 + 8 * i + 1 + 7; omega)) (by decide) rfl (by omega) (by omega) (by rw [m_E_ix e0]; show 46 + 8 * i < 46 + 8 * i + 1 + 7; omega) hc0 rfl ?_
      refine m_iinc C dX2_init_47 rfl (by decide) ?_
      refine m_goto C dX2_init_50 (tgt := 25) rfl ?_
      rw [Int.toNat_natCast, w32_s (by omega)]
      have h := ih (i + 1) (by omega) (m_up μ3 6 1 i (100 * ((12 + i : Nat) : Int))) ⟨fun a b c h1 h2 => ?_, fun j hj => ?_, fun j hj c hc => ?_⟩
      · have q1 : 46 + 8 * (i + 1) = 46 + 8 * i + 1 + 7 := by omega
        have q2 : 1 + 8 * (i + 1) = 1 + 8 * i + 1 + 7 := by omega
        have q3 : 20 + 85 * (i + 1) = 20 + 85 * i + 10 + 75 := by omega
        rw [q1, q2, q3] at h
        exact h
      · rw [m_up_ne _ _ (by omega), fN a b c (by omega), p1 a b c h1 (by omega)]
      · by_cases y : j = i
        · subst y; rw [m_up_at]; omega
        · rw [m_up_ne _ _ (by omega), fN 6 1 j (by omega)]; exact p2 j (by omega)
      · by_cases y : j = i
        · subst y; rw [m_up_ne _ _ (by omega)]; exact vN c hc
        · rw [m_up_ne _ _ (by omega), fN (12 + j) 0 c (by omega)]; exact p3 j (by omega) c hc
  exact LL 20 0 (by omega) μ2 ⟨fun _ _ _ _ _ => rfl, fun j hj => by omega, fun j hj => by omega⟩
