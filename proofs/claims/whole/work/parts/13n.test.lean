/-! ===== the class reads a formula as the reference does: tests, and all together ===== -/
section PD
variable {G : m_G} {T : Nat → Int} {L t b q n : Nat}
theorem p_Both (hq : q < 4) (HP : CFact G T L t b q n) : CBoth G T L t b q n := by
  intro d e o kd ph bg pr ops fs CC μ K hn h ho hf hm hc hk hpre ks kf
  have hpre : tsK kd ∧ ph = 0 ∧ bg ≠ 0 ∧ tr ops < 2 := hpre
  obtain ⟨hts, hph, hbg, htr⟩ := hpre
  subst hph
  have hL16 : L ≤ 1600 := h.1.1.2.2.2
  have ht9 := h.1.2.1
  refine EX6_readBoth (fun X C R => ?_)
  have loopF : ∀ (μ1 : m_M) (l k p : Int), ofC t μ μ1 → CF t k p μ1 → RdF G T L b q (e, o, 0, ((kd, 0, bg, pr), ops) :: fs, CC) k p → mW G X YX6_readBoth μ1 6 [some (vR 2 0), some (vI l)] [] := fun μ1 l k p f1 g1 rf => by
    refine VX6_readBoth_6 C R ⟨fun _ => kf μ1 k p f1 g1 rf, fun _ => ?_⟩
    rw [g1.2.2.2.2.2]
    exact ⟨fun _ => kf μ1 k p f1 g1 rf, fun z => absurd z (by decide)⟩
  have loop : ∀ (r : Nat) (μ1 : m_M) (e1 l : Nat) (ph1 bg1 : Int) (δ E CL1 : List Int), L - e1 < r → l < e1 → ofC t μ μ1 → CS T L t q μ1 e1 o (CC ++ E) → e < e1 → Rd G T L b q (e, o, 0, ((kd, 0, bg, pr), ops) :: fs, CC) (e1, o + nots δ, 1, ((kd, ph1, bg1, pr), δ ++ ops) :: fs, CL1) → CL1 ++ tks δ = CC ++ E → (∀ x ∈ δ, 2 ≤ rk x ∧ x ≠ 0) → (∀ ts : List Bool, ts.length ≤ 7 * o + 1 → tcs q E ts = some (true :: ts)) → (CC ++ E).length + (ops ++ opA fs).length ≤ e1 → (ph1 ≠ 0 ∧ (ph1 < 2 → ¬ isAr (tTk T L e1))) → mW G X YX6_readBoth μ1 6 [some (vR 2 0), some (vI (l : Int))] [] := by
    intro r
    induction r with
    | zero => intro _ _ _ _ _ _ _ _ z; omega
    | succ r ih =>
      intro μ1 e1 l ph1 bg1 δ E CL1 hr hl f1 h1 lt1 r1 eq1 al1 ty1 cnt1 tp1
      have he1 := h1.2.1
      have hlf1 := h1.2.2.2.1
      refine VX6_readBoth_6 C R ⟨fun z => by omega, fun _ => ?_⟩
      rw [h1.2.2.2.2.2.1]
      refine ⟨fun z => ks μ1 e1 ph1 bg1 δ E CL1 f1 h1 lt1 r1 eq1 al1 ty1 cnt1 ⟨tp1.1, tp1.2, z⟩, fun ht => ?_⟩
      have ne1 := nend (T := T) he1 (by omega)
      have gc := gC (G := G) (b := b) (q := q) (o := o) (kd := kd) (ph := ph1) (bg := bg1) (pr := pr) (ops := ops) (fs := fs) (CL := CL1) hk hlf1 hts tp1.1 (by omega) (fun x hx => by rw [if_pos ht]; exact al1 x hx) (by rw [if_pos ht]; exact htr) (by omega)
      rw [eq1, if_pos ht] at gc
      have r2 := r1.tr gc
      have opl : ((41 :: ops) ++ opA fs).length = (ops ++ opA fs).length + 1 := rfl
      have after : ∀ (μ5 : m_M), ofC t μ μ5 → ∀ k p, CF t k p μ5 → RdF G T L b q (e, o, 0, ((kd, 0, bg, pr), ops) :: fs, CC) k p → ∃ t6 : Nat, μ5 2 0 1 = 100 * (t6 : Int) ∧ m_cls t6 = 9 ∧ c_v G (d + 10 * (7 - o) + 12) YX10_addCode [vR t6 0, vI 277] μ5 (fun μ7 => ∀ x8 : Int, x8 = w32 ((l : Int) + 1) → mW G X YX6_readBoth μ7 6 [some (vR 2 0), some (vI x8)] []) := fun μ5 f5 k p g5 rf => ⟨t, g5.2.1.1, cls9 ht9, f_add (d := d + 10 * (7 - o) + 11) g5 (fun μ6 f6 g6 x8 _ => loopF μ6 x8 k p (f5.tr f6) g6 rf)⟩
      refine s_next (d := d + 10 * (7 - o) + 9) h1 (by omega) (fun hf2 μ2 f2 g2 => ?_) (fun μ2 f2 h2 => ?_)
      · exact f_fact (d := d + 10 * (7 - o) + 5) g2 (fun μ3 f3 g3 => after μ3 (f1.tr (f2.tr f3)) 1 _ g3 (r2.trF (rdL0 ⟨hq, ho, by omega, by rw [opl]; omega⟩ hf2)))
      · refine HP d (tEn T L e1) o kd 0 1 pr (41 :: ops) fs (CC ++ E) μ2 _ (by omega) h2 ho hf (by rw [opl]; omega) (by rw [opl]; omega) hk ⟨hts, rfl, by decide, by show rk 41 < _; decide⟩ ?_ ?_
        · intro μ4 e4 ph4 bg4 δ4 E4 CL4 f4 h4 lt4 r4 eq4 al4 ty4 cnt4 ps4
          rw [opl] at cnt4
          have r4' := r2.tr r4
          refine ⟨t, h4.1.2.2.1.1, cls9 ht9, s_add (d := d + 10 * (7 - o) + 11) h4 (by have := h4.2.1; omega) (fun μ5 f5 h5 x8 e8 => ?_)⟩
          rw [w32_s (by omega)] at e8
          subst e8
          have el : CC ++ E ++ E4 ++ [277] = CC ++ (E ++ E4 ++ [277]) := by simp only [List.append_assoc]
          rw [el] at h5
          refine ih μ5 e4 (l + 1) ph4 bg4 (δ4 ++ [41]) (E ++ E4 ++ [277]) CL4 (by omega) (by omega) (f1.tr (f2.tr (f4.tr f5))) h5 (by omega) ?_ ?_ ?_ ?_ ?_ ps4
          · rw [nots_app, List.append_assoc]; exact r4'
          · rw [tks_app, ← List.append_assoc, eq4, ← el]; rfl
          · intro x hx
            rcases List.mem_append.1 hx with y | y
            · exact ⟨by have := (al4 x y).1; omega, (al4 x y).2⟩
            · rw [List.mem_singleton.1 y]
              exact ⟨by decide, by decide⟩
          · intro ts hts
            rw [tcs_app _ _ ts (true :: true :: ts), tcs_one (ts1 := true :: ts) rfl]
            · simp only [List.length_cons]; omega
            · rw [tcs_app _ _ ts (true :: ts) (ty1 ts hts), ty4]
              simp only [List.length_cons]; omega
          · rw [← el, List.length_append, List.length_singleton]; omega
        · intro μ4 k p f4 g4 rf
          exact after μ4 (f1.tr (f2.tr f4)) k p g4 (r2.trF rf)
  refine HP d e o kd 0 bg pr ops fs CC μ _ hn h ho hf (by omega) hc hk ⟨hts, rfl, hbg, by omega⟩ ?_ ?_
  · intro μ4 e4 ph4 bg4 δ4 E4 CL4 f4 h4 lt4 r4 eq4 al4 ty4 cnt4 ps4
    exact loop (L - e4 + 1) μ4 e4 0 ph4 bg4 δ4 E4 CL4 (by omega) (by omega) f4 h4 lt4 r4 eq4 (fun x hx => ⟨by have := (al4 x hx).1; omega, (al4 x hx).2⟩) (fun ts hts => ty4 ts (by omega)) cnt4 ps4
  · intro μ4 k p f4 g4 rf
    exact loopF μ4 0 k p f4 g4 rf
theorem p_Test (hq : q < 4) (HP : CBoth G T L t b q n) : CTest G T L t b q n := by
  intro d e o kd ph bg pr ops fs CC μ K hn h ho hf hm hc hk hpre ks kf
  have hpre : tsK kd ∧ ph = 0 ∧ bg ≠ 0 ∧ tr ops < 1 := hpre
  obtain ⟨hts, hph, hbg, htr⟩ := hpre
  subst hph
  have hL16 : L ≤ 1600 := h.1.1.2.2.2
  have ht9 := h.1.2.1
  refine EX6_readTest (fun X C R => ?_)
  have loopF : ∀ (μ1 : m_M) (l k p : Int), ofC t μ μ1 → CF t k p μ1 → RdF G T L b q (e, o, 0, ((kd, 0, bg, pr), ops) :: fs, CC) k p → mW G X YX6_readTest μ1 6 [some (vR 2 0), some (vI l)] [] := fun μ1 l k p f1 g1 rf => by
    refine VX6_readTest_6 C R ⟨fun _ => kf μ1 k p f1 g1 rf, fun _ => ?_⟩
    rw [g1.2.2.2.2.2]
    exact ⟨fun _ => kf μ1 k p f1 g1 rf, fun z => absurd z (by decide)⟩
  have loop : ∀ (r : Nat) (μ1 : m_M) (e1 l : Nat) (ph1 bg1 : Int) (δ E CL1 : List Int), L - e1 < r → l < e1 → ofC t μ μ1 → CS T L t q μ1 e1 o (CC ++ E) → e < e1 → Rd G T L b q (e, o, 0, ((kd, 0, bg, pr), ops) :: fs, CC) (e1, o + nots δ, 1, ((kd, ph1, bg1, pr), δ ++ ops) :: fs, CL1) → CL1 ++ tks δ = CC ++ E → (∀ x ∈ δ, 1 ≤ rk x ∧ x ≠ 0) → (∀ ts : List Bool, ts.length ≤ 7 * o + 0 → tcs q E ts = some (true :: ts)) → (CC ++ E).length + (ops ++ opA fs).length ≤ e1 → (ph1 ≠ 0 ∧ (ph1 < 2 → ¬ isAr (tTk T L e1)) ∧ tTk T L e1 ≠ 277) → mW G X YX6_readTest μ1 6 [some (vR 2 0), some (vI (l : Int))] [] := by
    intro r
    induction r with
    | zero => intro _ _ _ _ _ _ _ _ z; omega
    | succ r ih =>
      intro μ1 e1 l ph1 bg1 δ E CL1 hr hl f1 h1 lt1 r1 eq1 al1 ty1 cnt1 tp1
      have he1 := h1.2.1
      have hlf1 := h1.2.2.2.1
      refine VX6_readTest_6 C R ⟨fun z => by omega, fun _ => ?_⟩
      rw [h1.2.2.2.2.2.1]
      refine ⟨fun z => ks μ1 e1 ph1 bg1 δ E CL1 f1 h1 lt1 r1 eq1 al1 ty1 cnt1 ⟨tp1.1, tp1.2.1, tp1.2.2, z⟩, fun ht => ?_⟩
      have ne1 := nend (T := T) he1 (by omega)
      have gc := gC (G := G) (b := b) (q := q) (o := o) (kd := kd) (ph := ph1) (bg := bg1) (pr := pr) (ops := ops) (fs := fs) (CL := CL1) hk hlf1 hts tp1.1 (by omega) (fun x hx => by rw [if_neg (show ¬ tTk T L e1 = 277 by omega)]; exact al1 x hx) (by rw [if_neg (show ¬ tTk T L e1 = 277 by omega)]; exact htr) (by omega)
      rw [eq1, if_neg (show ¬ tTk T L e1 = 277 by omega)] at gc
      have r2 := r1.tr gc
      have opl : ((42 :: ops) ++ opA fs).length = (ops ++ opA fs).length + 1 := rfl
      have after : ∀ (μ5 : m_M), ofC t μ μ5 → ∀ k p, CF t k p μ5 → RdF G T L b q (e, o, 0, ((kd, 0, bg, pr), ops) :: fs, CC) k p → ∃ t6 : Nat, μ5 2 0 1 = 100 * (t6 : Int) ∧ m_cls t6 = 9 ∧ c_v G (d + 10 * (7 - o) + 13) YX10_addCode [vR t6 0, vI 276] μ5 (fun μ7 => ∀ x8 : Int, x8 = w32 ((l : Int) + 1) → mW G X YX6_readTest μ7 6 [some (vR 2 0), some (vI x8)] []) := fun μ5 f5 k p g5 rf => ⟨t, g5.2.1.1, cls9 ht9, f_add (d := d + 10 * (7 - o) + 12) g5 (fun μ6 f6 g6 x8 _ => loopF μ6 x8 k p (f5.tr f6) g6 rf)⟩
      refine s_next (d := d + 10 * (7 - o) + 10) h1 (by omega) (fun hf2 μ2 f2 g2 => ?_) (fun μ2 f2 h2 => ?_)
      · exact f_both (d := d + 10 * (7 - o) + 5) g2 (fun μ3 f3 g3 => after μ3 (f1.tr (f2.tr f3)) 1 _ g3 (r2.trF (rdL0 ⟨hq, ho, by omega, by rw [opl]; omega⟩ hf2)))
      · refine HP d (tEn T L e1) o kd 0 1 pr (42 :: ops) fs (CC ++ E) μ2 _ (by omega) h2 ho hf (by rw [opl]; omega) (by rw [opl]; omega) hk ⟨hts, rfl, by decide, by show rk 42 < _; decide⟩ ?_ ?_
        · intro μ4 e4 ph4 bg4 δ4 E4 CL4 f4 h4 lt4 r4 eq4 al4 ty4 cnt4 ps4
          rw [opl] at cnt4
          have r4' := r2.tr r4
          refine ⟨t, h4.1.2.2.1.1, cls9 ht9, s_add (d := d + 10 * (7 - o) + 12) h4 (by have := h4.2.1; omega) (fun μ5 f5 h5 x8 e8 => ?_)⟩
          rw [w32_s (by omega)] at e8
          subst e8
          have el : CC ++ E ++ E4 ++ [276] = CC ++ (E ++ E4 ++ [276]) := by simp only [List.append_assoc]
          rw [el] at h5
          refine ih μ5 e4 (l + 1) ph4 bg4 (δ4 ++ [42]) (E ++ E4 ++ [276]) CL4 (by omega) (by omega) (f1.tr (f2.tr (f4.tr f5))) h5 (by omega) ?_ ?_ ?_ ?_ ?_ ps4
          · rw [nots_app, List.append_assoc]; exact r4'
          · rw [tks_app, ← List.append_assoc, eq4, ← el]; rfl
          · intro x hx
            rcases List.mem_append.1 hx with y | y
            · exact ⟨by have := (al4 x y).1; omega, (al4 x y).2⟩
            · rw [List.mem_singleton.1 y]
              exact ⟨by decide, by decide⟩
          · intro ts hts
            rw [tcs_app _ _ ts (true :: true :: ts), tcs_one (ts1 := true :: ts) rfl]
            · simp only [List.length_cons]; omega
            · rw [tcs_app _ _ ts (true :: ts) (ty1 ts hts), ty4]
              simp only [List.length_cons]; omega
          · rw [← el, List.length_append, List.length_singleton]; omega
        · intro μ4 k p f4 g4 rf
          exact after μ4 (f1.tr (f2.tr f4)) k p g4 (r2.trF rf)
  refine HP d e o kd 0 bg pr ops fs CC μ _ hn h ho hf (by omega) hc hk ⟨hts, rfl, hbg, by omega⟩ ?_ ?_
  · intro μ4 e4 ph4 bg4 δ4 E4 CL4 f4 h4 lt4 r4 eq4 al4 ty4 cnt4 ps4
    exact loop (L - e4 + 1) μ4 e4 0 ph4 bg4 δ4 E4 CL4 (by omega) (by omega) f4 h4 lt4 r4 eq4 (fun x hx => ⟨by have := (al4 x hx).1; omega, (al4 x hx).2⟩) (fun ts hts => ty4 ts (by omega)) cnt4 ps4
  · intro μ4 k p f4 g4 rf
    exact loopF μ4 0 k p f4 g4 rf
theorem p_all (hq : q < 4) : ∀ n, CSum G T L t b q n ∧ CFact G T L t b q n ∧ CTest G T L t b q n := by
  intro n
  induction n with
  | zero => exact ⟨fun d e o kd ph bg pr ops fs CC μ K z => by omega, fun d e o kd ph bg pr ops fs CC μ K z => by omega, fun d e o kd ph bg pr ops fs CC μ K z => by omega⟩
  | succ n ih =>
    have hs := p_sum hq (p_product hq (p_part hq ih.1 ih.2.2))
    have hf := p_fact hq hs ih.2.1 ih.2.2
    exact ⟨hs, hf, p_Test hq (p_Both hq hf)⟩
end PD
