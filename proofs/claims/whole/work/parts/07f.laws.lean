set_option maxRecDepth 20000 in
theorem c_isCracked {G : m_G} {d t : Nat} {μ : m_M} {A : m_T} (hT : CT μ t A) {c : Nat} (hc : c < tw_nc A) {heat place week : Int} (h1 : sm heat) (h2 : sm place) (h3 : sm week) {r : Int} (hr : r = p_ring A c heat place week) {K : Int → m_M → Prop} (h : ∀ μ1, off5 μ μ1 → K (if p_crk A c heat place week then 1 else 0) μ1) : c_i G (d + 6) YX4_isCracked [vR 4 0, vI (c : Int), vI heat, vI place, vI week, vI r] μ K := by
  unfold sm at h1 h2 h3
  have hri := p_ring_in A c heat place week
  rw [← hr] at hri
  refine EX4_isCracked ⟨t, hT.2.1, hT.1, c_hasFormula (q := 1) hT.1 (by decide) ?_⟩
  have hTA := hT.2.2.2.1
  have hcl := (hTA.2.2.1 c hc)
  cases hl : tw_law A 1 with
  | none =>
    rw [if_neg (hT.untold (by decide) hl)]
    refine ⟨fun z => absurd rfl z, fun _ => ?_⟩
    have hh := h μ (off5.rf μ)
    unfold p_crk at hh
    rw [hl] at hh
    exact hh
  | some f =>
    obtain ⟨a, n, k1, k2, k3, k4, k5⟩ := hT.told (by decide) hl
    rw [if_pos k5]
    refine ⟨fun _ => ?_, fun z => absurd z (by decide)⟩
    refine c_tellChild hT hc (fun μ1 ho e1 e2 e3 e4 e5 => c_tell (j := 15) (by decide) ?_ rfl)
    have ho1 := ho.tr (off5.up μ1 1 15 r)
    generalize hμ2 : m_up μ1 5 1 15 r = μ2 at ho1 ⊢
    have f1 : env5 μ2 268 = heat := by rw [← hμ2, env5_up, if_neg (by decide)]; exact e1
    have f2 : env5 μ2 269 = week := by rw [← hμ2, env5_up, if_neg (by decide)]; exact e2
    have f3 : env5 μ2 257 = tw_clay A c := by rw [← hμ2, env5_up, if_neg (by decide)]; exact e3
    have f4 : env5 μ2 258 = tw_grit A c := by rw [← hμ2, env5_up, if_neg (by decide)]; exact e4
    have f5 : env5 μ2 270 = place := by rw [← hμ2, env5_up, if_neg (by decide)]; exact e5
    have f6 : env5 μ2 271 = r := by rw [← hμ2, env5_up, if_pos (by decide)]
    have hT1 := hT.off ho1
    have ht : ∀ b c, μ2 t b c = μ t b c := fun b c => ho1 t b c (cls_ne hT.1 (show m_cls 5 = 5 from rfl) (by decide))
    have hw := (hTA.2.2.2.2.2.2.2 1 f hl).2
    have hcode : codeL (μ2 t 12) a n = f := by rw [k4]; exact codeL_congr n a (fun i _ _ => ht 12 i)
    have henv : ∀ op, p_fw 1 op = true → env5 μ2 op = (fun op => if op = 271 then p_ring A c heat place week else e_rg A c heat place week op) op := fun op hop => by
      rcases p_fw1 hop with e | e | e | e | e | e <;> subst e
      · rw [f1]; rfl
      · rw [f2]; rfl
      · rw [f3]; rfl
      · rw [f4]; rfl
      · rw [f5]; rfl
      · rw [f6, hr]; rfl
    refine ⟨t, hT1.2.1, hT1.1, c_valueOf (q := 1) (a := a) (n := n) (ty := true) hT1.1 (by decide) (by rw [ht]; exact k1) (by rw [ht]; exact k2) k3 (by rw [hcode]; exact hw) (fun op hop => ?_) (fun μ3 ho2 _ => ?_)⟩
    · rcases p_fw1 hop with e | e | e | e | e | e <;> subst e
      · rw [f1]; omega
      · rw [f2]; omega
      · rw [f3]; omega
      · rw [f4]; omega
      · rw [f5]; omega
      · rw [f6]; omega
    · rw [hcode, p_val_congr henv hw]
      have hh := h μ3 (ho1.tr ho2)
      unfold p_crk at hh
      rw [hl] at hh
      dsimp only at hh
      refine ⟨fun c => ?_, fun c => ?_⟩
      · rw [if_neg (by simpa using c)] at hh; exact hh
      · rw [if_pos (by simpa using c)] at hh; exact hh
set_option maxRecDepth 20000 in
theorem c_isStuck {G : m_G} {d t : Nat} {μ : m_M} {A : m_T} (hT : CT μ t A) {c e : Nat} (hc : c < tw_nc A) (he : e < tw_nc A) {df heat week : Int} (h1 : sm heat) (h2 : sm df) (h3 : sm week) {K : Int → m_M → Prop} (h : ∀ μ1, off5 μ μ1 → K (if p_stk A c e (p_abs df) heat week then 1 else 0) μ1) : c_i G (d + 6) YX4_isStuck [vR 4 0, vI (c : Int), vI (e : Int), vI df, vI heat, vI week] μ K := by
  unfold sm at h1 h2 h3
  have hTA := hT.2.2.2.1
  have h8 : c < 8 := Nat.lt_of_lt_of_le hc hTA.1
  have h8e : e < 8 := Nat.lt_of_lt_of_le he hTA.1
  have ht5 : t ≠ 5 := cls_ne hT.1 (show m_cls 5 = 5 from rfl) (by decide)
  have hcl := (hTA.2.2.1 c hc)
  have hcl2 := (hTA.2.2.1 e he)
  refine EX4_isStuck ⟨t, hT.2.1, hT.1, c_hasFormula (q := 2) hT.1 (by decide) ?_⟩
  cases hl : tw_law A 2 with
  | none =>
    rw [if_neg (hT.untold (by decide) hl)]
    refine ⟨fun z => absurd rfl z, fun _ => ?_⟩
    have hh := h μ (off5.rf μ)
    unfold p_stk at hh
    rw [hl] at hh
    exact hh
  | some f =>
    obtain ⟨a, n, k1, k2, k3, k4, k5⟩ := hT.told (by decide) hl
    rw [if_pos k5]
    refine ⟨fun _ => ?_, fun z => absurd z (by decide)⟩
    have hab : (if 0 ≤ df then df else w32 (0 - df)) = p_abs df := by
      unfold p_abs
      split
      · rfl
      · rw [w32_le (by omega) (by omega)]; omega
    rw [hab]
    refine c_tell (j := 12) (by decide) (c_tell (j := 13) (by decide) (c_tell (j := 16) (by decide) ?_ rfl) rfl) rfl
    have ho0 := ((off5.up μ 1 12 heat).tr (off5.up _ 1 13 week)).tr (off5.up _ 1 16 (p_abs df))
    generalize hμ1 : m_up (m_up (m_up μ 5 1 12 heat) 5 1 13 week) 5 1 16 (p_abs df) = μ1 at ho0 ⊢
    have hT0 := hT.off ho0
    refine ⟨t, hT0.2.1, hT0.1, ⟨by omega, by omega⟩, t, hT0.2.1, hT0.1, ⟨by omega, by omega⟩, ?_⟩
    rw [Int.toNat_natCast, Int.toNat_natCast, hT0.grit hc, hT0.grit he, w32_le (by omega) (by omega)]
    refine c_tell (j := 17) (by decide) ?_ rfl
    have ho1 := ho0.tr (off5.up μ1 1 17 (tw_grit A c + tw_grit A e))
    generalize hμ2 : m_up μ1 5 1 17 (tw_grit A c + tw_grit A e) = μ2 at ho1 ⊢
    have f1 : env5 μ2 268 = heat := by rw [← hμ2, env5_up, if_neg (by decide), ← hμ1, env5_up, if_neg (by decide), env5_up, if_neg (by decide), env5_up, if_pos (by decide)]
    have f2 : env5 μ2 269 = week := by rw [← hμ2, env5_up, if_neg (by decide), ← hμ1, env5_up, if_neg (by decide), env5_up, if_pos (by decide)]
    have f3 : env5 μ2 272 = p_abs df := by rw [← hμ2, env5_up, if_neg (by decide), ← hμ1, env5_up, if_pos (by decide)]
    have f4 : env5 μ2 273 = tw_grit A c + tw_grit A e := by rw [← hμ2, env5_up, if_pos (by decide)]
    have hpa : 0 ≤ p_abs df ∧ p_abs df ≤ 1000000 := by unfold p_abs; split <;> omega
    have hT1 := hT.off ho1
    have ht : ∀ b c, μ2 t b c = μ t b c := fun b c => ho1 t b c ht5
    have hw := (hTA.2.2.2.2.2.2.2 2 f hl).2
    have hcode : codeL (μ2 t 12) a n = f := by rw [k4]; exact codeL_congr n a (fun i _ _ => ht 12 i)
    have henv : ∀ op, p_fw 2 op = true → env5 μ2 op = (fun op => if op = 268 then heat else if op = 269 then week else if op = 272 then p_abs df else tw_grit A c + tw_grit A e) op := fun op hop => by
      rcases p_fw2 hop with e | e | e | e <;> subst e
      · rw [f1]; rfl
      · rw [f2]; rfl
      · rw [f3]; rfl
      · rw [f4]; rfl
    refine ⟨t, hT1.2.1, hT1.1, c_valueOf (q := 2) (a := a) (n := n) (ty := true) hT1.1 (by decide) (by rw [ht]; exact k1) (by rw [ht]; exact k2) k3 (by rw [hcode]; exact hw) (fun op hop => ?_) (fun μ3 ho2 _ => ?_)⟩
    · rcases p_fw2 hop with e | e | e | e <;> subst e
      · rw [f1]; omega
      · rw [f2]; omega
      · rw [f3]; omega
      · rw [f4]; omega
    · rw [hcode, p_val_congr henv hw]
      have hh := h μ3 (ho1.tr ho2)
      unfold p_stk at hh
      rw [hl] at hh
      dsimp only at hh
      refine ⟨fun c => ?_, fun c => ?_⟩
      · rw [if_neg (by simpa using c)] at hh; exact hh
      · rw [if_pos (by simpa using c)] at hh; exact hh
set_option maxRecDepth 20000 in
theorem c_burnt {G : m_G} {d t o : Nat} {μ : m_M} {A : m_T} (hT : CT μ t A) (ho : m_cls o = 0) {k : Nat} (hk : k < tw_nk A) (h1 : sm (μ o 8 k)) (h3 : sm (μ o 0 0)) {K : Int → m_M → Prop} (h : ∀ μ1, off5 μ μ1 → K (p_brn A (μ o 8 k) (μ o 0 0) (tw_room A k) (b_cnt (μ o) (k : Int))) μ1) : c_i G (d + 6) YX4_burnt [vR 4 0, vR o 0, vI (k : Int)] μ K := by
  unfold sm at h1 h3
  have hTA := hT.2.2.2.1
  have hk3 : k < 3 := Nat.lt_of_lt_of_le hk hTA.2.1
  have ht5 : t ≠ 5 := cls_ne hT.1 (show m_cls 5 = 5 from rfl) (by decide)
  have ho5 : o ≠ 5 := cls_ne ho (show m_cls 5 = 5 from rfl) (by decide)
  have hrm := hTA.2.2.2.1 k hk
  have hcn : b_cnt (μ o) (k : Int) ≤ 8 := m_cnt_le _ _ _
  refine EX4_burnt ho ⟨⟨by omega, by omega⟩, fun x1 e1 => ⟨t, hT.2.1, hT.1, c_hasFormula (q := 3) hT.1 (by decide) ?_⟩⟩
  rw [Int.toNat_natCast] at e1
  subst e1
  cases hl : tw_law A 3 with
  | none =>
    rw [if_neg (hT.untold (by decide) hl)]
    refine ⟨fun z => absurd rfl z, fun _ => ?_⟩
    have hh := h μ (off5.rf μ)
    unfold p_brn at hh
    rw [hl] at hh
    exact hh
  | some f =>
    obtain ⟨a, n, k1, k2, k3, k4, k5⟩ := hT.told (by decide) hl
    rw [if_pos k5]
    refine ⟨fun _ => ?_, fun z => absurd z (by decide)⟩
    refine c_tell (j := 12) (by decide) (c_tell (j := 13) (by decide) ?_ rfl) rfl
    have e0 : m_up μ 5 1 12 (μ o 8 k) o 0 0 = μ o 0 0 := m_up_ne _ _ (fun z => ho5 z.1)
    rw [e0]
    have ho0 := (off5.up μ 1 12 (μ o 8 k)).tr (off5.up _ 1 13 (μ o 0 0))
    generalize hμ1 : m_up (m_up μ 5 1 12 (μ o 8 k)) 5 1 13 (μ o 0 0) = μ1 at ho0 ⊢
    have hT0 := hT.off ho0
    refine ⟨t, hT0.2.1, hT0.1, ⟨by omega, by omega⟩, ?_⟩
    rw [Int.toNat_natCast, hT0.room hk]
    refine c_tell (j := 4) (by decide) (c_countIn ho ?_) rfl
    have hb : b_cnt (m_up μ1 5 1 4 (tw_room A k) o) (k : Int) = b_cnt (μ o) (k : Int) := by
      have : ∀ c, m_up μ1 5 1 4 (tw_room A k) o 3 c = μ o 3 c := fun c => by rw [m_up_ne _ _ (fun z => ho5 z.1)]; exact ho0 o 3 c ho5
      unfold b_cnt
      simp only [this]
    rw [hb]
    refine c_tell (j := 18) (by decide) ?_ rfl
    have ho1 := (ho0.tr (off5.up μ1 1 4 (tw_room A k))).tr (off5.up _ 1 18 (b_cnt (μ o) (k : Int) : Int))
    generalize hμ2 : m_up (m_up μ1 5 1 4 (tw_room A k)) 5 1 18 (b_cnt (μ o) (k : Int) : Int) = μ2 at ho1 ⊢
    have f1 : env5 μ2 268 = μ o 8 k := by rw [← hμ2, env5_up, if_neg (by decide), env5_up, if_neg (by decide), ← hμ1, env5_up, if_neg (by decide), env5_up, if_pos (by decide)]
    have f2 : env5 μ2 269 = μ o 0 0 := by rw [← hμ2, env5_up, if_neg (by decide), env5_up, if_neg (by decide), ← hμ1, env5_up, if_pos (by decide)]
    have f3 : env5 μ2 260 = tw_room A k := by rw [← hμ2, env5_up, if_neg (by decide), env5_up, if_pos (by decide)]
    have f4 : env5 μ2 274 = (b_cnt (μ o) (k : Int) : Int) := by rw [← hμ2, env5_up, if_pos (by decide)]
    have hT1 := hT.off ho1
    have ht : ∀ b c, μ2 t b c = μ t b c := fun b c => ho1 t b c ht5
    have hw := (hTA.2.2.2.2.2.2.2 3 f hl).2
    have hcode : codeL (μ2 t 12) a n = f := by rw [k4]; exact codeL_congr n a (fun i _ _ => ht 12 i)
    have henv : ∀ op, p_fw 3 op = true → env5 μ2 op = (fun op => if op = 268 then μ o 8 k else if op = 269 then μ o 0 0 else if op = 260 then tw_room A k else (b_cnt (μ o) (k : Int) : Int)) op := fun op hop => by
      rcases p_fw3 hop with e | e | e | e <;> subst e
      · rw [f1]; rfl
      · rw [f2]; rfl
      · rw [f3]; rfl
      · rw [f4]; rfl
    refine ⟨t, hT1.2.1, hT1.1, c_valueOf (q := 3) (a := a) (n := n) (ty := false) hT1.1 (by decide) (by rw [ht]; exact k1) (by rw [ht]; exact k2) k3 (by rw [hcode]; exact hw) (fun op hop => ?_) (fun μ3 ho2 _ => ?_)⟩
    · rcases p_fw3 hop with e | e | e | e <;> subst e
      · rw [f1]; omega
      · rw [f2]; omega
      · rw [f3]; omega
      · rw [f4]; omega
    · rw [hcode, p_val_congr henv hw]
      have hh := h μ3 (ho1.tr ho2)
      unfold p_brn at hh
      rw [hl] at hh
      dsimp only at hh
      generalize p_val _ f = v at hh ⊢
      by_cases q : v < 0
      · rw [if_pos q] at hh; rw [if_neg (by omega)]; exact hh
      · rw [if_neg q] at hh
        by_cases q2 : 0 < v
        · rw [if_pos q2]; exact hh
        · rw [if_neg q2, show (0 : Int) = v by omega]; exact hh
