/-! ===== the reader's constructor ===== -/
abbrev YX7_init : m_Y := (yX7_init, cX7_init, 5, none)
theorem wo_KilnBench_Reader_3 : Cond.methodLink "KilnBench$Reader" 3 Lib.objectInit ∈ m_w := m_mem 230 (by decide +kernel) rfl
def L_X7_init : List Int := [100 * ((3 : Nat) : Int) + ((1 : Nat) : Int), 100 * ((3 : Nat) : Int) + ((2 : Nat) : Int), 0, 0, 284, 0, 0, 0, -1]
def t_nx (b : Int) (s : Nat × Nat × List Int) : Nat × Nat × List Int := if b = 32 then (s.1 + 1, 0, s.2.2) else (s.1, s.2.1 + 1, s.2.2.set s.1 (s.2.2.getD s.1 0 + (b - 97 + 1) * (m_lwL.getD s.2.1 0).toInt))
def t_st : Nat → Nat × Nat × List Int
  | 0 => (0, 0, List.replicate 26 0)
  | k + 1 => t_nx (t_by.getD k 0).toInt (t_st k)
def t_ok (b : Int) (s : Nat × Nat × List Int) : Bool := decide (s.1 < 26) && decide (s.2.2.length = 26) && (decide (b = 32) || (decide (s.2.1 < 6) && decide (97 ≤ b ∧ b ≤ 122) && decide (0 ≤ s.2.2.getD s.1 0 ∧ s.2.2.getD s.1 0 ≤ 400000000) && decide (0 ≤ (b - 97 + 1) * (m_lwL.getD s.2.1 0).toInt ∧ (b - 97 + 1) * (m_lwL.getD s.2.1 0).toInt ≤ 400000000)))
def t_all : Nat → Nat × Nat × List Int → List Int32 → Bool
  | _, _, [] => true
  | k, s, x :: r => t_ok x.toInt s && t_all (k + 1) (t_nx x.toInt s) r
def t_run : Nat × Nat × List Int → List Int32 → Nat × Nat × List Int
  | s, [] => s
  | s, x :: r => t_run (t_nx x.toInt s) r
theorem t_all_ok : t_all 0 (0, 0, List.replicate 26 0) t_by = true := by decide +kernel
theorem t_run_ok : (t_run (0, 0, List.replicate 26 0) t_by).2.2 = ownL := by decide +kernel
theorem t_at : ∀ (l : List Int32) (k0 : Nat) (s : Nat × Nat × List Int), t_all k0 s l = true → ∀ k, k < l.length → ∃ s', t_ok (l.getD k 0).toInt s' = true ∧ (∀ n, n ≤ k → True) ∧ s' = t_run s (l.take k) := by
  intro l
  induction l with
  | nil => intro k0 s _ k hk; exact absurd hk (Nat.not_lt_zero _)
  | cons x r ih =>
    intro k0 s h k hk
    have h : (t_ok x.toInt s && t_all (k0 + 1) (t_nx x.toInt s) r) = true := h
    rw [Bool.and_eq_true] at h
    cases k with
    | zero => exact ⟨s, h.1, fun _ _ => trivial, rfl⟩
    | succ k =>
      obtain ⟨s', h1, h2, h3⟩ := ih (k0 + 1) (t_nx x.toInt s) h.2 k (by simp at hk; omega)
      exact ⟨s', h1, fun _ _ => trivial, h3⟩
theorem t_run_st : ∀ k, k ≤ 132 → t_run (0, 0, List.replicate 26 0) (t_by.take k) = t_st k := by
  have app : ∀ (l : List Int32) (s : Nat × Nat × List Int) (x : Int32), t_run s (l ++ [x]) = t_nx x.toInt (t_run s l) := by
    intro l
    induction l with
    | nil => intro s x; rfl
    | cons y r ih => intro s x; exact ih (t_nx y.toInt s) x
  intro k
  induction k with
  | zero => intro _; rfl
  | succ k ih =>
    intro hk
    have hl : k < t_by.length := by show k < 132; omega
    rw [List.take_succ_eq_append_getElem hl, app, ih (by omega)]
    show t_nx t_by[k].toInt (t_st k) = t_nx (t_by.getD k 0).toInt (t_st k)
    rw [List.getD_eq_getElem?_getD, List.getElem?_eq_getElem hl]
    rfl
theorem t_okk {k : Nat} (hk : k < 132) : t_ok (t_by.getD k 0).toInt (t_st k) = true := by
  obtain ⟨s', h1, _, h3⟩ := t_at t_by 0 _ t_all_ok k hk
  rw [h3, t_run_st k (by omega)] at h1
  exact h1
theorem t_end : (t_st 132).2.2 = ownL := by
  rw [← t_run_st 132 (Nat.le_refl _)]
  exact t_run_ok
theorem m_gen {G : m_G} {X : m_X} {Y : m_Y} {S : Nat × Bool × Nat × Nat} {μ : m_M} {pc : Nat} {lv : List (Option m_V)} {st : List m_V} (k : ∀ μ2, μ2 = μ → m_W G X Y S μ2 pc lv st) : m_W G X Y S μ pc lv st := k μ rfl
theorem i_X7_init {G : m_G} {d aS aV : Nat} {vF : Value} {μ : m_M} {K : Nat × Bool → m_M → Prop} (hZ : m_Zk G) (hZe : G.2.2.2.2.2.1 = t_Z (m_A G) aS aV vF) (hvF : vF = .null ∨ ∃ a, vF = .ref a) (z : ∀ b c, μ 3 b c = 0) (hK : ∀ μ1, (∀ a b c, ¬ (a = 3 ∧ (b = 0 ∨ b = 1)) → μ1 a b c = μ a b c) → (∀ c, c < 9 → μ1 3 0 c = L_X7_init.getD c 0) → (∀ i, i < 26 → μ1 3 1 i = ownL.getD i 0) → K (24, false) μ1) : m_Cv G (d + 4) 2 26 YX7_init (22, false) [vR 3 0] μ K := by
  refine m_enter (S := (22, false)) (by decide) (Nat.le_of_ble_eq_true rfl) hZ (fun X C R => ?_)
  show m_W G X YX7_init (22, false, 0, 0) μ 0 [some (vR 3 0), none, none, none, none] []
  rw [obF_of (μ := μ) (o := 3) (f := fun _ => 0) (z 0)]
  refine m_aload_n C dX7_init_0 rfl ?_
  refine m_objI C dX7_init_1 wo_KilnBench_Reader_3 wo_i wo_c (by decide) ?_
  refine m_aload_n C dX7_init_4 rfl ?_
  refine m_bipush C dX7_init_5 (by omega) ?_
  refine m_newa (a := 0) (len := 26) (w := 1) C (by decide) dX7_init_7 wa_0 rfl (by decide) rfl (by decide) (fun j => by rw [obF_ne (fun q => absurd q.2 (by decide))]; exact z 1 j) (Nat.le_of_ble_eq_true rfl) (Nat.le_of_ble_eq_true rfl) ?_
  refine m_putR (t := 3) (w := 1) (x := 100 * ((3 : Nat) : Int) + ((1 : Nat) : Int)) C dX7_init_9 fl_KilnBench_Reader_11 (Or.inl ⟨rfl, rfl⟩) rfl (by decide +kernel) (Or.inr rfl) rfl rfl (by decide) (by decide) ?_
  rw [obF_up]
  refine m_aload_n C dX7_init_12 rfl ?_
  refine m_iconst C dX7_init_13 (by unfold in32; omega) ?_
  refine m_newa (a := 1) (len := 0) (w := 2) C (by decide) dX7_init_14 wa_1 rfl (by decide) rfl (by decide) (fun j => by rw [obF_ne (fun q => absurd q.2 (by decide))]; exact z 2 j) (Nat.le_of_ble_eq_true rfl) (Nat.le_of_ble_eq_true rfl) ?_
  refine m_putR (t := 3) (w := 2) (x := 100 * ((3 : Nat) : Int) + ((2 : Nat) : Int)) C dX7_init_16 fl_KilnBench_Reader_17 (Or.inl ⟨rfl, rfl⟩) rfl (by decide +kernel) (Or.inr rfl) rfl rfl (by decide) (by decide) ?_
  rw [obF_up]
  refine m_aload_n C dX7_init_19 rfl ?_
  refine m_iconst C dX7_init_20 (by unfold in32; omega) ?_
  refine m_putI C dX7_init_21 fl_KilnBench_Reader_21 (Or.inl ⟨rfl, rfl⟩) rfl (by decide +kernel) (Or.inr rfl) rfl ?_
  rw [obF_up]
  refine m_aload_n C dX7_init_24 rfl ?_
  refine m_iconst C dX7_init_25 (by unfold in32; omega) ?_
  refine m_putI C dX7_init_26 fl_KilnBench_Reader_25 (Or.inl ⟨rfl, rfl⟩) rfl (by decide +kernel) (Or.inr rfl) rfl ?_
  rw [obF_up]
  refine m_aload_n C dX7_init_29 rfl ?_
  refine m_sipush C dX7_init_30 (by omega) ?_
  refine m_putI C dX7_init_33 fl_KilnBench_Reader_28 (Or.inl ⟨rfl, rfl⟩) rfl (by decide +kernel) (Or.inr rfl) rfl ?_
  rw [obF_up]
  refine m_aload_n C dX7_init_36 rfl ?_
  refine m_iconst C dX7_init_37 (by unfold in32; omega) ?_
  refine m_putI C dX7_init_38 fl_KilnBench_Reader_31 (Or.inl ⟨rfl, rfl⟩) rfl (by decide +kernel) (Or.inr rfl) rfl ?_
  rw [obF_up]
  refine m_aload_n C dX7_init_41 rfl ?_
  refine m_iconst C dX7_init_42 (by unfold in32; omega) ?_
  refine m_putI C dX7_init_43 fl_KilnBench_Reader_34 (Or.inl ⟨rfl, rfl⟩) rfl (by decide +kernel) (Or.inr rfl) rfl ?_
  rw [obF_up]
  refine m_aload_n C dX7_init_46 rfl ?_
  refine m_iconst C dX7_init_47 (by unfold in32; omega) ?_
  refine m_putI C dX7_init_48 fl_KilnBench_Reader_37 (Or.inl ⟨rfl, rfl⟩) rfl (by decide +kernel) (Or.inr rfl) rfl ?_
  rw [obF_up]
  refine m_aload_n C dX7_init_51 rfl ?_
  refine m_iconst C dX7_init_52 (by unfold in32; omega) ?_
  refine m_putI C dX7_init_53 fl_KilnBench_Reader_40 (Or.inl ⟨rfl, rfl⟩) rfl (by decide +kernel) (Or.inr rfl) rfl ?_
  rw [obF_up]
  refine m_gen (fun μ2 hμ2 => ?_)
  have v2 : ∀ c, c < 9 → μ2 3 0 c = L_X7_init.getD c 0 := fun c hc => by
    rw [hμ2, obF_at]
    match c, hc with
    | 0, _ => rfl
    | 1, _ => rfl
    | 2, _ => rfl
    | 3, _ => rfl
    | 4, _ => rfl
    | 5, _ => rfl
    | 6, _ => rfl
    | 7, _ => rfl
    | 8, _ => rfl
  have f2 : ∀ a b c, ¬ (a = 3 ∧ b = 0) → μ2 a b c = μ a b c := fun a b c h => by rw [hμ2, obF_ne h]
  clear hμ2
  refine m_iconst C dX7_init_56 (by unfold in32; omega) ?_
  refine m_istore_n C dX7_init_57 (by decide) ?_
  show m_W G X YX7_init (24, false, 2, 26) μ2 58 [some (vR 3 0), some (vI 0), none, none, none] []
  refine m_iconst C dX7_init_58 (by unfold in32; omega) ?_
  refine m_istore_n C dX7_init_59 (by decide) ?_
  show m_W G X YX7_init (24, false, 2, 26) μ2 60 [some (vR 3 0), some (vI 0), some (vI 0), none, none] []
  refine m_iconst C dX7_init_60 (by unfold in32; omega) ?_
  refine m_istore_n C dX7_init_61 (by decide) ?_
  show m_W G X YX7_init (24, false, 2, 26) μ2 62 [some (vR 3 0), some (vI 0), some (vI 0), some (vI 0), none] []
  have LL : ∀ r k : Nat, k + r = 132 → ∀ μ1 : m_M, (∀ a b c, ¬ (a = 3 ∧ b = 1) → μ1 a b c = μ2 a b c) → (∀ i, i < 26 → μ1 3 1 i = (t_st k).2.2.getD i 0) → m_W G X YX7_init (24, false, 2, 26) μ1 62 [some (vR 3 0), some (vI ((t_st k).1 : Int)), some (vI ((t_st k).2.1 : Int)), some (vI (k : Int)), none] [] := by
    intro r
    induction r with
    | zero =>
      intro k hk μ1 g1 a1
      have hk : k = 132 := by omega
      subst hk
      refine m_iload_n C dX7_init_62 rfl ?_
      refine m_strLen (d := d + 2) C hZe rfl dX7_init_63 dX7_init_65 (Nat.le_of_ble_eq_true rfl) (by decide) (by decide) ?_
      refine m_icmp_ge C dX7_init_68 (tgt := 140) rfl (fun _ => ?_) (fun q => absurd (by decide) q)
      refine m_vret C R rfl dX7_init_140 (by decide) (by decide) (hK μ1 (fun a b c h => ?_) (fun c hc => ?_) (fun i hi => ?_))
      · rw [g1 a b c (by omega), f2 a b c (by omega)]
      · rw [g1 3 0 c (by omega)]; exact v2 c hc
      · rw [a1 i hi, t_end]
    | succ r ih =>
      intro k hk μ1 g1 a1
      have ok := t_okk (k := k) (by omega)
      have nx : t_st (k + 1) = t_nx (t_by.getD k 0).toInt (t_st k) := rfl
      obtain ⟨s, hs⟩ : ∃ s, s = t_st k := ⟨_, rfl⟩
      rw [← hs] at ok nx a1 ⊢
      obtain ⟨ch, hch⟩ : ∃ ch, ch = (t_by.getD k 0).toInt := ⟨_, rfl⟩
      rw [← hch] at ok nx
      unfold t_ok at ok
      simp only [Bool.and_eq_true, Bool.or_eq_true, decide_eq_true_eq] at ok
      obtain ⟨⟨o1, o2⟩, o3⟩ := ok
      have e30 : μ1 3 0 0 = 100 * ((3 : Nat) : Int) + ((1 : Nat) : Int) := by rw [g1 3 0 0 (by omega)]; exact v2 0 (by decide)
      refine m_iload_n C dX7_init_62 rfl ?_
      refine m_strLen (d := d + 2) C hZe rfl dX7_init_63 dX7_init_65 (Nat.le_of_ble_eq_true rfl) (by decide) (by decide) ?_
      refine m_icmp_ge C dX7_init_68 (tgt := 140) rfl (fun q => absurd q (by omega)) (fun _ => ?_)
      refine m_iload_n C dX7_init_71 rfl ?_
      refine m_aload_n C dX7_init_72 rfl ?_
      refine m_getR (t := 3) (w := 1) C dX7_init_73 fl_KilnBench_Reader_11 rfl (by decide +kernel) rfl e30 (by decide) (by decide) ?_
      refine m_alen C dX7_init_76 (by decide +kernel) (by decide) (a := 0) (len := 26) rfl (by decide) (by decide) ?_
      refine m_icmp_ge C dX7_init_77 (tgt := 140) rfl (fun q => absurd q (by omega)) (fun _ => ?_)
      refine m_strCh (d := d) (k := k) C hZe hvF rfl dX7_init_80 dX7_init_82 dX7_init_83 (by omega) rfl (by decide) (by decide) (by decide) ?_
      rw [← hch]
      refine m_istore C dX7_init_86 (by decide) ?_
      show m_W G X YX7_init (24, false, 2, 26) μ1 88 [some (vR 3 0), some (vI (s.1 : Int)), some (vI (s.2.1 : Int)), some (vI (k : Int)), some (vI ch)] []
      have at134 : ∀ (w l : Nat) (μ3 : m_M), t_st (k + 1) = (w, l, (t_st (k + 1)).2.2) → (∀ a b c, ¬ (a = 3 ∧ b = 1) → μ3 a b c = μ2 a b c) → (∀ i, i < 26 → μ3 3 1 i = (t_st (k + 1)).2.2.getD i 0) → m_W G X YX7_init (24, false, 2, 26) μ3 134 [some (vR 3 0), some (vI (w : Int)), some (vI (l : Int)), some (vI (k : Int)), some (vI ch)] [] := fun w l μ3 e g3 a3 => by
        refine m_iinc C dX7_init_134 rfl (by decide) ?_
        refine m_goto C dX7_init_137 (tgt := 62) rfl ?_
        rw [w32_s (by omega)]
        have h := ih (k + 1) (by omega) μ3 g3 a3
        rw [show (t_st (k + 1)).1 = w by rw [e], show (t_st (k + 1)).2.1 = l by rw [e]] at h
        refine m_weak (fun i v hv => ?_) h
        match i, hv with
        | 0, hv => exact hv
        | 1, hv => exact hv
        | 2, hv => exact hv
        | 3, hv => exact hv
        | 4, hv => cases hv
        | i + 5, hv => cases hv
      refine m_iload C dX7_init_88 rfl ?_
      refine m_bipush C dX7_init_90 (by omega) ?_
      refine m_icmp_ne C dX7_init_92 (tgt := 103) rfl (fun q => ?_) (fun q => ?_)
      · rcases o3 with o3 | ⟨⟨⟨o3, o4⟩, o5⟩, o6⟩
        · exact absurd o3 q
        refine m_iload_n C dX7_init_103 rfl ?_
        refine m_bipush C dX7_init_104 (by omega) ?_
        refine m_icmp_ge C dX7_init_106 (tgt := 134) rfl (fun q => absurd q (by omega)) (fun _ => ?_)
        refine m_aload_n C dX7_init_109 rfl ?_
        refine m_getR (t := 3) (w := 1) C dX7_init_110 fl_KilnBench_Reader_11 rfl (by decide +kernel) rfl e30 (by decide) (by decide) ?_
        refine m_iload_n C dX7_init_113 rfl ?_
        refine m_dup2 C dX7_init_114 rfl rfl ?_
        refine m_iald C dX7_init_115 (by decide +kernel) (by decide) (len := 26) rfl (by omega) (by omega) ?_
        refine m_iload C dX7_init_116 rfl ?_
        refine m_bipush C dX7_init_118 (by omega) ?_
        refine m_isub C dX7_init_120 ?_
        refine m_iconst C dX7_init_121 (by unfold in32; omega) ?_
        refine m_iadd C dX7_init_122 ?_
        refine m_getLW C dX7_init_123 (Or.inr (by decide +kernel)) ?_
        refine m_iload_n C dX7_init_126 rfl ?_
        refine m_ldLW C dX7_init_127 (by omega) (by omega) ?_
        refine m_imul C dX7_init_128 ?_
        refine m_iadd C dX7_init_129 ?_
        refine m_iast C dX7_init_130 (by decide +kernel) (by decide) (len := 26) rfl (by omega) (by omega) ?_
        refine m_iinc C dX7_init_131 rfl (by decide) ?_
        rw [Int.toNat_natCast, Int.toNat_natCast, a1 s.1 o1, w32_le (z := ch - 97) (by omega) (by omega), w32_le (z := ch - 97 + 1) (by omega) (by omega), w32_le (z := (ch - 97 + 1) * (m_lwL.getD s.2.1 0).toInt) (by omega) (by omega), w32_le (by omega) (by omega), w32_s (by omega)]
        have e : t_st (k + 1) = (s.1, s.2.1 + 1, s.2.2.set s.1 (s.2.2.getD s.1 0 + (ch - 97 + 1) * (m_lwL.getD s.2.1 0).toInt)) := by rw [nx]; unfold t_nx; rw [if_neg q]
        refine at134 s.1 (s.2.1 + 1) _ (by rw [e]) (fun a b c h => by rw [m_up_ne _ _ (fun q => h ⟨q.1, q.2.1⟩)]; exact g1 a b c h) (fun i hi => ?_)
        rw [e]
        show _ = (s.2.2.set s.1 _).getD i 0
        by_cases hi2 : i = s.1
        · subst hi2
          rw [m_up_at]
          generalize s.2.2.getD s.1 0 + (ch - 97 + 1) * (m_lwL.getD s.2.1 0).toInt = vv
          rw [List.getD_eq_getElem?_getD, List.getElem?_set_self (by omega)]
          rfl
        · rw [m_up_ne _ _ (by omega), List.getD_eq_getElem?_getD, List.getElem?_set_ne (by omega), a1 i hi, List.getD_eq_getElem?_getD]
      · refine m_iinc C dX7_init_95 rfl (by decide) ?_
        refine m_iconst C dX7_init_98 (by unfold in32; omega) ?_
        refine m_istore_n C dX7_init_99 (by decide) ?_
        refine m_goto C dX7_init_100 (tgt := 134) rfl ?_
        rw [w32_s (by omega)]
        have e : t_st (k + 1) = (s.1 + 1, 0, s.2.2) := by rw [nx]; unfold t_nx; rw [if_pos q]
        exact at134 (s.1 + 1) 0 μ1 (by rw [e]) g1 (fun i hi => by rw [e]; exact a1 i hi)
  exact LL 132 0 (by omega) μ2 (fun _ _ _ _ => rfl) (fun i hi => by rw [f2 3 1 i (by omega), z]; show (0 : Int) = (List.replicate 26 0).getD i 0; rw [List.getD_eq_getElem?_getD, List.getElem?_replicate]; split <;> rfl)
