/-! ===== the law from its entry to its end, once the first relation holds ===== -/
theorem wc_KilnBenchLaw_7 : Cond.classLink "KilnBenchLaw" 7 "KilnBench" ∈ m_w := m_mem 130 (by decide +kernel) rfl
theorem wc_KilnBenchLaw_10 : Cond.classLink "KilnBenchLaw" 10 "KilnBenchModel" ∈ m_w := m_mem 1218 (by decide +kernel) rfl
theorem co_X11_init : m_co YX11_init := ⟨m_mem 134 (by decide +kernel) rfl, m_mem 109 (by decide +kernel) rfl, by decide⟩
theorem li_KilnBenchLaw_9 : m_LI "KilnBenchLaw" 9 YX11_init 0 := ⟨co_X11_init, ⟨by decide, by decide, by decide +kernel⟩, Or.inl (m_mem 132 (by decide +kernel) rfl), m_mem 133 (by decide +kernel) rfl, rfl, rfl⟩
theorem co_X12_init : m_co YX12_init := ⟨m_mem 1222 (by decide +kernel) rfl, m_mem 125 (by decide +kernel) rfl, by decide⟩
theorem li_KilnBenchLaw_12 : m_LI "KilnBenchLaw" 12 YX12_init 0 := ⟨co_X12_init, ⟨by decide, by decide, by decide +kernel⟩, Or.inl (m_mem 1220 (by decide +kernel) rfl), m_mem 1221 (by decide +kernel) rfl, rfl, rfl⟩
def iL (o : Nat) : List Int := if o = 1 then L_X11_init else if o = 2 then L_X6_init else if o = 3 then L_X7_init else if o = 4 then L_X4_init else if o = 5 then L_X5_init else if o = 6 then L_X2_init else if o = 7 then L_X1_init else if o = 8 then L_X8_init else if o = 9 then L_X3_init else if 10 ≤ o ∧ o < 32 then L_X0_init o else if o = 32 ∨ o = 33 then L_X10_init o else if o = 34 then L_X12_init else []
/-- what stands when both are made -/
def MFa (μ : m_M) : Prop := (∀ o c, c < (iL o).length → μ o 0 c = (iL o).getD c 0) ∧ (∀ c, c < 26 → μ 3 1 c = ownL.getD c 0) ∧ (∀ c : Nat, c < 20 → μ 6 1 c = 1200 + 100 * (c : Int)) ∧ (∀ c, c < 8 → μ 10 3 c = -1 ∧ μ 10 4 c = -1 ∧ μ 10 5 c = -1 ∧ μ 10 6 c = 0 ∧ μ 10 7 c = 0) ∧ (∀ c, c < 3 → μ 10 8 c = -1) ∧ ((∀ c, μ 34 23 c = if c < 8 then -1 else 0) ∧ ∀ c, μ 34 50 c = if c < 3 then -1 else 0) ∧ ∀ a b c, b ≠ 0 → ¬ (a = 3 ∧ b = 1) → ¬ (a = 6 ∧ b = 1) → ¬ a = 10 → ¬ (a = 34 ∧ (b = 23 ∨ b = 50)) → μ a b c = 0
theorem mfa_of {μ μ1 : m_M} (h : MFc μ) (f : ∀ a b c, ¬ (a = 34 ∧ (b = 0 ∨ b = 23 ∨ b = 50)) → μ1 a b c = μ a b c) (v : ∀ c, c < 67 → μ1 34 0 c = L_X12_init.getD c 0) (v23 : ∀ c, μ1 34 23 c = if c < 8 then -1 else 0) (v50 : ∀ c, μ1 34 50 c = if c < 3 then -1 else 0) : MFa μ1 := by
  obtain ⟨h1, ⟨v32, v33, v2, v3, w3, v4, v5, v11, v6, w6, vp, v7, v8, v9⟩, h10, hb, hb8, hz⟩ := h
  have g : ∀ o b c, o ≠ 34 → μ1 o b c = μ o b c := fun o b c ho => f o b c (fun q => ho q.1)
  refine ⟨fun o c hc => ?_, fun c hc => ?_, fun c hc => ?_, fun c hc => ?_, fun c hc => ?_, ⟨v23, v50⟩, fun a b c n0 n1 n2 n3 n4 => ?_⟩
  · by_cases q34 : o = 34
    · subst q34; exact v c hc
    rw [g o 0 c q34]
    by_cases q1 : o = 1
    · subst q1; exact h1 c hc
    by_cases q2 : o = 2
    · subst q2; exact v2 c hc
    by_cases q3 : o = 3
    · subst q3; exact v3 c hc
    by_cases q4 : o = 4
    · subst q4; exact v4 c hc
    by_cases q5 : o = 5
    · subst q5; exact v5 c hc
    by_cases q6 : o = 6
    · subst q6; exact v6 c hc
    by_cases q7 : o = 7
    · subst q7; exact v7 c hc
    by_cases q8 : o = 8
    · subst q8; exact v8 c hc
    by_cases q9 : o = 9
    · subst q9; exact v9 c hc
    by_cases q10 : o = 10
    · subst q10
      have hc : c < 10 := hc
      by_cases y : 2 ≤ c ∧ c ≤ 8
      · rw [h10.2.2.2 c y.1 y.2]
        have e : ∀ c, c < 10 → 2 ≤ c ∧ c ≤ 8 → 1000 + ((c + 1 : Nat) : Int) = (iL 10).getD c 0 := by decide +kernel
        exact e c hc y
      · have : c = 0 ∨ c = 1 ∨ c = 9 := by omega
        rcases this with q | q | q
        · subst q; exact h10.1
        · subst q; exact h10.2.1
        · subst q; exact h10.2.2.1
    by_cases q11 : o = 11
    · subst q11; exact v11 c hc
    by_cases qp : 12 ≤ o ∧ o < 32
    · obtain ⟨j, rfl⟩ : ∃ j, o = 12 + j := ⟨o - 12, by omega⟩
      have e : iL (12 + j) = L_X0_init (12 + j) := by
        unfold iL
        rw [if_neg (by omega), if_neg (by omega), if_neg (by omega), if_neg (by omega), if_neg (by omega), if_neg (by omega), if_neg (by omega), if_neg (by omega), if_neg (by omega), if_pos (by omega)]
      rw [e] at hc ⊢
      exact vp j (by omega) c hc
    by_cases q32 : o = 32
    · subst q32; exact v32 c hc
    by_cases q33 : o = 33
    · subst q33; exact v33 c hc
    · have e : iL o = [] := by
        unfold iL
        rw [if_neg q1, if_neg q2, if_neg q3, if_neg q4, if_neg q5, if_neg q6, if_neg q7, if_neg q8, if_neg q9, if_neg (by omega), if_neg (by omega), if_neg q34]
      rw [e] at hc
      exact absurd hc (Nat.not_lt_zero _)
  · rw [g 3 1 c (by decide)]; exact w3 c hc
  · rw [g 6 1 c (by decide)]; exact w6 c hc
  · rw [g 10 3 c (by decide), g 10 4 c (by decide), g 10 5 c (by decide), g 10 6 c (by decide), g 10 7 c (by decide)]; exact hb c hc
  · rw [g 10 8 c (by decide)]; exact hb8 c hc
  · rw [f a b c (by omega)]; exact hz a b c (by omega) n1 n2 n3
theorem fk_big : ∀ c j, 70 ≤ j → m_fk c j = 0 := by
  intro c j hj
  have hl : (m_fkL.getD c []).length ≤ 70 := by
    by_cases h : c < 12
    · exact (by decide +kernel : ∀ c, c < 12 → (m_fkL.getD c []).length ≤ 70) c h
    · have : m_fkL.getD c [] = [] := by rw [List.getD_eq_getElem?_getD, List.getElem?_eq_none (by show 12 ≤ c; omega)]; rfl
      rw [this]; exact Nat.zero_le _
  unfold m_fk
  rw [List.getD_eq_getElem?_getD, List.getElem?_eq_none (by omega)]; rfl
theorem fk_obj : ∀ o, 35 ≤ o → ∀ j, m_fk (m_cls o) j = 0 := by
  intro o ho j
  rw [m_cls_big ho]
  rfl
theorem fk_all : ∀ o, o < 35 → ∀ j, j < 70 → (m_fk (m_cls o) j = 1 → j < (iL o).length ∧ (iL o).getD j 0 = 100 * (o : Int) + ((j : Int) + 1)) ∧ (100 ≤ m_fk (m_cls o) j → j < (iL o).length ∧ (iL o).getD j 0 = (m_fk (m_cls o) j : Int)) := by decide +kernel
theorem mfa_lk {μ : m_M} (h : MFa μ) : m_lk μ := by
  refine ⟨fun o j hj => ?_, fun o j hj => ?_, h.2.2.1⟩
  · by_cases ho : o < 35
    · by_cases hj7 : j < 70
      · have := (fk_all o ho j hj7).1 hj
        rw [h.1 o j this.1]; exact this.2
      · rw [fk_big _ j (by omega)] at hj; omega
    · rw [fk_obj o (by omega)] at hj; omega
  · by_cases ho : o < 35
    · by_cases hj7 : j < 70
      · have := (fk_all o ho j hj7).2 hj
        rw [h.1 o j this.1]; exact this.2
      · rw [fk_big _ j (by omega)] at hj; omega
    · rw [fk_obj o (by omega)] at hj; omega
theorem m_full {G : m_G} {X : m_X} {Y : m_Y} {kc ks : Nat} {μ : m_M} {pc : Nat} {lv : List (Option m_V)} {st : List m_V} (h : m_lk μ) (k : m_W G X Y (260, true, kc, ks) μ pc lv st) : m_W G X Y (260, false, kc, ks) μ pc lv st := by
  obtain ⟨p, l, e, R, s, m, args, below, meth, c, Qf⟩ := X
  intro H locs ls hP hf hS ho hlv
  exact k H locs ls hP (fun _ => ⟨m_E_len.symm, h⟩) hS ho hlv
theorem law_start (hF : ∀ μ, MFa μ → RR μ) {p : Program} {e : Env} {s : State} {m : MethodId} {below : List Frame} {meth : Method} {c : Code} (l : Launch) {b L : Nat} {xs : Nat → Int32} (hL : L ≤ 3072) (C0 : lw_At p s m meth c b L xs) : W p l e room_1 s m #[Value.ref b] below meth c s.heap [] 0 0 (lw_Z below #[Value.ref b] s) (entryFrame m ([Value.ref b] : List Value).toArray 4) := by
  obtain ⟨G, aS, aV, vF, hK, hZ, g1, g2, g3, hZe, hvF⟩ := k_start l C0
  obtain ⟨hx, hb, hr, hml, hown, hts, hX, hbl, hlocks, hgv⟩ := C0
  have htw : ∀ w ∈ m_w, w.before #[Value.ref b] s = true := fun w hw => hts w (List.mem_filter.mp hw).1
  have C : m_Cx G (p, l, e, room_1, s, m, #[Value.ref b], below, meth, c, lw_Z below #[Value.ref b] s) (YL meth.name) 101 600000 7302250 := ⟨hx, hb, hml, hr, hlocks, rfl, hown, htw, hK, hZ, by decide, by decide, Nat.le_refl _, Nat.le_refl _, g3.symm⟩
  have gb : G.2.2.2.1.1 = b := by rw [g2]
  have gL : G.2.2.2.1.2.1 = L := by rw [g2]
  have hrv : m_rv G (vR 0 2) = Value.ref b := by show Value.ref (m_ad G (0, 2)) = _; show Value.ref G.2.2.2.1.1 = _; rw [gb]
  have hm : [vR 0 2].map (m_rv G) = [Value.ref b] := by show [m_rv G (vR 0 2)] = _; rw [hrv]
  have body : m_W G (p, l, e, room_1, s, m, #[Value.ref b], below, meth, c, lw_Z below #[Value.ref b] s) (YL meth.name) (0, false, 0, 0) (fun _ _ _ => 0) 0 [some (vR 0 2), none, none, none] [] := by
    refine m_new (o := 1) C dL_law_0 rfl wc_KilnBenchLaw_7 wi_KilnBench wn_KilnBench rfl (fun _ => rfl) (by decide) (by decide) ?_
    refine m_dup C dL_law_3 rfl ?_
    refine m_callI (As := []) (o := 1) (st := [vR 1 0]) (mc1 := 217) (ms1 := 7615) (K := fun S1 μ1 => S1 = (218, false) ∧ MFc μ1) C dL_law_4 li_KilnBenchLaw_9 rfl rfl (by decide) (by decide) (by decide) (i_X11_init (d := 94) hZ hZe hvF (fun _ _ _ => rfl) (fun μ1 h => ⟨rfl, h⟩)) (fun S1 μ1 hk => ?_)
    obtain ⟨rfl, hM⟩ := hk
    refine m_astore_n C dL_law_7 (Nat.le_of_ble_eq_true rfl) ?_
    refine m_new (o := 34) C dL_law_8 rfl wc_KilnBenchLaw_10 wi_KilnBenchModel wn_KilnBenchModel rfl (fun j => hM.2.2.2.2.2 34 0 j (by omega) (by omega) (by omega) (by omega)) (by decide) (by decide) ?_
    refine m_dup C dL_law_11 rfl ?_
    refine m_callI (As := []) (o := 34) (st := [vR 34 0]) (mc1 := 41) (ms1 := 14005) (K := fun S1 μ2 => S1 = (260, false) ∧ MFa μ2) C dL_law_12 li_KilnBenchLaw_12 rfl rfl (by decide) (by decide) (by decide) (i_X12_init (d := 99) hZ (fun b c => hM.2.2.2.2.2 34 b c (by omega) (by omega) (by omega) (by omega)) (fun μ2 f v v23 v50 => ⟨rfl, mfa_of hM f v v23 v50⟩)) (fun S1 μ2 hk => ?_)
    obtain ⟨rfl, hA⟩ := hk
    refine m_astore_n C dL_law_15 (Nat.le_of_ble_eq_true rfl) ?_
    refine m_iconst C dL_law_16 (by unfold in32; omega) ?_
    refine m_istore_n C dL_law_17 (Nat.le_of_ble_eq_true rfl) ?_
    refine m_full (mfa_lk hA) ?_
    refine l_loop C hZ (by decide) (by decide) (by rw [gL]; exact hL) (fun μ3 i => ?_) (L + 1) 0 (Nat.zero_le _) (by rw [gL]; omega) μ2 (hF μ2 hA)
    intro H locs ls hP hf hS ho hlv
    refine va_forget (fun q hq => ?_) ?_
    · have := hS.2.2 q hq
      unfold m_A at this
      rw [g1] at this
      exact this
    · refine W.widen (k := 600000) (n := 7302250) (Nat.le_of_ble_eq_true rfl) (Nat.le_of_ble_eq_true rfl) ?_
      exact lw_ret hx hb hr hlocks dL_law_1133
  rw [lg_entry_eq]
  have hh := body s.heap [] _ ⟨by rw [g1]; rfl, Nat.zero_le _, fun i q h => absurd h (Nat.not_lt_zero _)⟩ (fun h => by cases h) va_S.rf (fun v hv => by cases hv) (m_lvA_ok G [vR 0 2] 4 (Nat.le_of_ble_eq_true rfl) (fun v hv => by rw [List.mem_singleton.1 hv]; exact trivial))
  rw [hm] at hh
  exact hh
