/-! ===== the class reads a formula as the reference does: sums, facts ===== -/
theorem nots_app (δ δ2 : List Int) : nots (δ ++ δ2) = nots δ + nots δ2 := by
  induction δ with
  | nil => show nots δ2 = 0 + nots δ2; omega
  | cons x r ih => show nots (r ++ δ2) + _ = nots r + _ + nots δ2; rw [ih]; omega
theorem tks_app (δ δ2 : List Int) : tks (δ ++ δ2) = tks δ ++ tks δ2 := List.map_append
section PC
variable {G : m_G} {T : Nat → Int} {L t b q n : Nat}
theorem p_sum (hq : q < 4) (HP : CProd G T L t b q n) : CSum G T L t b q n := by
  intro d e o kd ph bg pr ops fs CC μ K hn h ho hf hm hc hk hpre ks kf
  have hpre : nFs kd bg (tTk T L e) ∧ tr ops < 5 ∧ ph < 2 := hpre
  have hL16 : L ≤ 1600 := h.1.1.2.2.2
  have ht9 := h.1.2.1
  refine EX6_readSum (fun X C R => ?_)
  have loopF : ∀ (μ1 : m_M) (l k p : Int), ofC t μ μ1 → CF t k p μ1 → RdF G T L b q (e, o, 0, ((kd, ph, bg, pr), ops) :: fs, CC) k p → mW G X YX6_readSum μ1 6 [some (vR 2 0), some (vI l), none] [] := fun μ1 l k p f1 g1 rf => by
    refine VX6_readSum_6 C R ⟨fun _ => kf μ1 k p f1 g1 rf, fun _ => ?_⟩
    rw [g1.2.2.2.2.2]
    exact ⟨fun z => absurd z (by decide), fun _ => ⟨fun _ => kf μ1 k p f1 g1 rf, fun z => absurd z (by decide)⟩⟩
  have loop : ∀ (r : Nat) (μ1 : m_M) (e1 l : Nat) (δ E CL1 : List Int), L - e1 < r → l < e1 → ofC t μ μ1 → CS T L t q μ1 e1 o (CC ++ E) → e < e1 → Rd G T L b q (e, o, 0, ((kd, ph, bg, pr), ops) :: fs, CC) (e1, o + nots δ, 1, ((kd, ph, 0, pr), δ ++ ops) :: fs, CL1) → CL1 ++ tks δ = CC ++ E → (∀ x ∈ δ, 5 ≤ rk x ∧ x ≠ 0) → (∀ ts : List Bool, ts.length ≤ 7 * o + 3 → tcs q E ts = some (false :: ts)) → (CC ++ E).length + (ops ++ opA fs).length ≤ e1 → ¬ (tTk T L e1 = 42 ∨ tTk T L e1 = 47 ∨ tTk T L e1 = 37) → mW G X YX6_readSum μ1 6 [some (vR 2 0), some (vI (l : Int)), none] [] := by
    intro r
    induction r with
    | zero => intro _ _ _ _ _ _ z; omega
    | succ r ih =>
      intro μ1 e1 l δ E CL1 hr hl f1 h1 lt1 r1 eq1 al1 ty1 cnt1 tp1
      have he1 := h1.2.1
      have hlf1 := h1.2.2.2.1
      have go : (tTk T L e1 = 43 ∨ tTk T L e1 = 45) → mW G X YX6_readSum μ1 37 [some (vR 2 0), some (vI (l : Int)), none] [] := fun ht => by
        refine VX6_readSum_37 C R (fun x1 ex => ?_)
        rw [h1.2.2.2.2.2.1] at ex
        subst ex
        have ne1 := nend (T := T) he1 (by omega)
        have har : isAr (tTk T L e1) := by unfold isAr; omega
        obtain ⟨k1, k2, k3, k4, k5⟩ := tk_opx har
        rw [if_pos ht] at k4
        have ga := gA (G := G) (b := b) (q := q) (o := o) (kd := kd) (ph := ph) (bg := 0) (pr := pr) (ops := ops) (fs := fs) (CL := CL1) hk hlf1 hpre.2.2 har (fun x hx => by rw [if_pos ht]; exact al1 x hx) (by rw [if_pos ht]; exact hpre.2.1) (by omega)
        rw [eq1] at ga
        have r2 := r1.tr ga
        have opl : ((opx (tTk T L e1) :: ops) ++ opA fs).length = (ops ++ opA fs).length + 1 := rfl
        have after : ∀ (μ5 : m_M), ofC t μ μ5 → ∀ k p, CF t k p μ5 → RdF G T L b q (e, o, 0, ((kd, ph, bg, pr), ops) :: fs, CC) k p → ∃ t6 : Nat, μ5 2 0 1 = 100 * (t6 : Int) ∧ m_cls t6 = 9 ∧ c_v G (d + 10 * (7 - o) + 9) YX10_addCode [vR t6 0, vI (tTk T L e1)] μ5 (fun μ7 => ∀ x8 : Int, x8 = w32 ((l : Int) + 1) → mW G X YX6_readSum μ7 6 [some (vR 2 0), some (vI x8), none] []) := fun μ5 f5 k p g5 rf => ⟨t, g5.2.1.1, cls9 ht9, f_add (d := d + 10 * (7 - o) + 8) g5 (fun μ6 f6 g6 x8 _ => loopF μ6 x8 k p (f5.tr f6) g6 rf)⟩
        refine s_next (d := d + 10 * (7 - o) + 6) h1 (by omega) (fun hf2 μ2 f2 g2 => ?_) (fun μ2 f2 h2 => ?_)
        · exact f_product (d := d + 10 * (7 - o) + 5) g2 (fun μ3 f3 g3 => after μ3 (f1.tr (f2.tr f3)) 1 _ g3 (r2.trF (rdL0 ⟨hq, ho, by omega, by rw [opl]; omega⟩ hf2)))
        · refine HP d (tEn T L e1) o kd ph 0 pr (opx (tTk T L e1) :: ops) fs (CC ++ E) μ2 _ (by omega) h2 ho hf (by rw [opl]; omega) (by rw [opl]; omega) hk ⟨fun z => absurd rfl z.2, by show rk _ < 6; omega, hpre.2.2⟩ ?_ ?_
          · intro μ4 e4 ph4 bg4 δ4 E4 CL4 f4 h4 lt4 r4 eq4 al4 ty4 cnt4 ps4
            obtain ⟨⟨ps5, ps6⟩, ps7⟩ := ps4
            rw [ps5, ps6] at r4
            rw [opl] at cnt4
            have r4' := r2.tr r4
            refine ⟨t, h4.1.2.2.1.1, cls9 ht9, s_add (d := d + 10 * (7 - o) + 8) h4 (by have := h4.2.1; omega) (fun μ5 f5 h5 x8 e8 => ?_)⟩
            rw [w32_s (by omega)] at e8
            subst e8
            have el : CC ++ E ++ E4 ++ [tTk T L e1] = CC ++ (E ++ E4 ++ [tTk T L e1]) := by simp only [List.append_assoc]
            rw [el] at h5
            refine ih μ5 e4 (l + 1) (δ4 ++ [opx (tTk T L e1)]) (E ++ E4 ++ [tTk T L e1]) CL4 (by omega) (by omega) (f1.tr (f2.tr (f4.tr f5))) h5 (by omega) ?_ ?_ ?_ ?_ ?_ ps7
            · rw [nots_app, k3, List.append_assoc]; exact r4'
            · rw [tks_app, ← List.append_assoc, eq4, show tks [opx (tTk T L e1)] = [tk (opx (tTk T L e1)) 0] from rfl, k1, el]
            · intro x hx
              rcases List.mem_append.1 hx with y | y
              · exact ⟨by have := (al4 x y).1; omega, (al4 x y).2⟩
              · rw [List.mem_singleton.1 y, k4]
                exact ⟨Int.le_refl _, k2⟩
            · intro ts hts
              rw [tcs_app _ _ ts (false :: false :: ts), tcs_one (k5 q ts)]
              · simp only [List.length_cons]; omega
              · rw [tcs_app _ _ ts (false :: ts) (ty1 ts hts), ty4]
                simp only [List.length_cons]; omega
            · rw [← el, List.length_append, List.length_singleton]; omega
          · intro μ4 k p f4 g4 rf
            exact after μ4 (f1.tr (f2.tr f4)) k p g4 (r2.trF rf)
      refine VX6_readSum_6 C R ⟨fun z => by omega, fun _ => ?_⟩
      rw [h1.2.2.2.2.2.1]
      exact ⟨fun z => go (Or.inl z), fun z => ⟨fun z2 => ks μ1 e1 ph 0 δ E CL1 f1 h1 lt1 r1 eq1 al1 ty1 cnt1 ⟨⟨rfl, rfl⟩, by unfold isAr; omega⟩, fun z2 => go (Or.inr z2)⟩⟩
  refine HP d e o kd ph bg pr ops fs CC μ _ hn h ho hf (by omega) hc hk ⟨hpre.1, by have := hpre.2.1; omega, hpre.2.2⟩ ?_ ?_
  · intro μ4 e4 ph4 bg4 δ4 E4 CL4 f4 h4 lt4 r4 eq4 al4 ty4 cnt4 ps4
    obtain ⟨⟨ps5, ps6⟩, ps7⟩ := ps4
    rw [ps5, ps6] at r4
    exact loop (L - e4 + 1) μ4 e4 0 δ4 E4 CL4 (by omega) (by omega) f4 h4 lt4 r4 eq4 (fun x hx => ⟨by have := (al4 x hx).1; omega, (al4 x hx).2⟩) (fun ts hts => ty4 ts (by omega)) cnt4 ps7
  · intro μ4 k p f4 g4 rf
    exact loopF μ4 0 k p f4 g4 rf
theorem tk_opc {x : Int} (h : isCm x) : tk (opc x) 0 = x ∧ opc x ≠ 0 ∧ nots [opc x] = 0 ∧ rk (opc x) = 4 ∧ ∀ (q : Nat) (ts : List Bool), t1 q x (false :: false :: ts) = some (true :: ts) := by
  unfold isCm at h
  rcases h with e | e | e <;> subst e <;> exact ⟨rfl, by decide, rfl, rfl, fun _ _ => rfl⟩
theorem c_comp (hq : q < 4) (HS : CSum G T L t b q n) {d e o : Nat} {kd bg : Int} {pr : Option Int} {ops : List Int} {fs : List Fr} {CC : List Int} {μ : m_M} {K : m_M → Prop} (hn : L - e < n) (h : CS T L t q μ e o CC) (ho : o ≤ 7) (hf : fs.length ≤ o) (hm : (ops ++ opA fs).length ≤ 7 * o + 2) (hc : CC.length + (ops ++ opA fs).length ≤ e) (hk : 0 ≤ kd ∧ kd ≤ 6) (hts : tsK kd) (htr : tr ops < 4) (hpre : nFs kd bg (tTk T L e)) (ks : SUC G T L t b q μ e o kd 0 bg pr ops fs CC 3 2 true (fun _ ph' _ tok => ph' ≠ 0 ∧ (ph' < 2 → ¬ isAr tok)) K) (kf : FAI G T L t b q μ (e, o, 0, ((kd, 0, bg, pr), ops) :: fs, CC) K) : c_v G (d + 10 * (7 - o) + 11) YX6_readComparison [vR 2 0] μ K := by
  have hL16 : L ≤ 1600 := h.1.1.2.2.2
  have ht9 := h.1.2.1
  refine EX6_readComparison ?_
  refine HS d e o kd 0 bg pr ops fs CC μ _ hn h ho hf (by omega) hc hk ⟨hpre, by omega, by decide⟩ ?_ ?_
  · intro μ1 e1 ph1 bg1 δ1 E1 CL1 f1 h1 lt1 r1 eq1 al1 ty1 cnt1 ps1
    obtain ⟨⟨ps5, ps6⟩, ps7⟩ := ps1
    rw [ps5, ps6] at r1
    have he1 := h1.2.1
    have hlf1 := h1.2.2.2.1
    intro x2 e2
    rw [h1.2.2.2.2.2.1] at e2
    have go : isCm x2 → c_v G (d + 10 * (7 - o) + 10) YX7_next [vR 3 0] μ1 (fun μ3 => c_v G (d + 10 * (7 - o) + 10) YX6_readSum [vR 2 0] μ3 (fun μ4 => ∃ t5 : Nat, μ4 2 0 1 = 100 * (t5 : Int) ∧ m_cls t5 = 9 ∧ c_v G (d + 10 * (7 - o) + 10) YX10_addCode [vR t5 0, vI x2] μ4 (fun μ6 => K μ6))) := fun ht => by
      subst e2
      have ht' := ht
      unfold isCm at ht'
      have ne1 := nend (T := T) he1 (by omega)
      obtain ⟨k1, k2, k3, k4, k5⟩ := tk_opc ht
      have gb := gB (G := G) (b := b) (q := q) (o := o) (kd := kd) (bg := 0) (pr := pr) (ops := ops) (fs := fs) (CL := CL1) hk hlf1 hts ht al1 (by omega) (by omega)
      rw [eq1] at gb
      have r2 := r1.tr gb
      have opl : ((opc (tTk T L e1) :: ops) ++ opA fs).length = (ops ++ opA fs).length + 1 := rfl
      have after : ∀ (μ5 : m_M), ofC t μ μ5 → ∀ k p, CF t k p μ5 → RdF G T L b q (e, o, 0, ((kd, 0, bg, pr), ops) :: fs, CC) k p → ∃ t6 : Nat, μ5 2 0 1 = 100 * (t6 : Int) ∧ m_cls t6 = 9 ∧ c_v G (d + 10 * (7 - o) + 10) YX10_addCode [vR t6 0, vI (tTk T L e1)] μ5 (fun μ7 => K μ7) := fun μ5 f5 k p g5 rf => ⟨t, g5.2.1.1, cls9 ht9, f_add (d := d + 10 * (7 - o) + 9) g5 (fun μ6 f6 g6 => kf μ6 k p (f5.tr f6) g6 rf)⟩
      refine s_next (d := d + 10 * (7 - o) + 7) h1 (by omega) (fun hf2 μ2 f2 g2 => ?_) (fun μ2 f2 h2 => ?_)
      · exact f_sum (d := d + 10 * (7 - o) + 5) g2 (fun μ3 f3 g3 => after μ3 (f1.tr (f2.tr f3)) 1 _ g3 (r2.trF (rdL0 ⟨hq, ho, by omega, by rw [opl]; omega⟩ hf2)))
      · refine HS d (tEn T L e1) o kd 1 0 pr (opc (tTk T L e1) :: ops) fs (CC ++ E1) μ2 _ (by omega) h2 ho hf (by rw [opl]; omega) (by rw [opl]; omega) hk ⟨fun z => absurd rfl z.2, by show rk _ < 5; omega, by decide⟩ ?_ ?_
        · intro μ4 e4 ph4 bg4 δ4 E4 CL4 f4 h4 lt4 r4 eq4 al4 ty4 cnt4 ps4
          obtain ⟨⟨ps5, ps6⟩, ps7⟩ := ps4
          rw [ps5, ps6] at r4
          rw [opl] at cnt4
          have r4' := r2.tr r4
          refine ⟨t, h4.1.2.2.1.1, cls9 ht9, s_add (d := d + 10 * (7 - o) + 9) h4 (by have := h4.2.1; omega) (fun μ5 f5 h5 => ?_)⟩
          have el : CC ++ E1 ++ E4 ++ [tTk T L e1] = CC ++ (E1 ++ E4 ++ [tTk T L e1]) := by simp only [List.append_assoc]
          rw [el] at h5
          refine ks μ5 e4 1 0 (δ4 ++ [opc (tTk T L e1)]) (E1 ++ E4 ++ [tTk T L e1]) CL4 (f1.tr (f2.tr (f4.tr f5))) h5 (by omega) ?_ ?_ ?_ ?_ ?_ ⟨by decide, fun _ => ps7⟩
          · rw [nots_app, k3, List.append_assoc]; exact r4'
          · rw [tks_app, ← List.append_assoc, eq4, show tks [opc (tTk T L e1)] = [tk (opc (tTk T L e1)) 0] from rfl, k1, el]
          · intro x hx
            rcases List.mem_append.1 hx with y | y
            · exact ⟨by have := (al4 x y).1; omega, (al4 x y).2⟩
            · rw [List.mem_singleton.1 y, k4]
              exact ⟨by decide, k2⟩
          · intro ts hts
            rw [tcs_app _ _ ts (false :: false :: ts), tcs_one (k5 q ts)]
            · simp only [List.length_cons]; omega
            · rw [tcs_app _ _ ts (false :: ts) (ty1 ts (by omega)), ty4]
              simp only [List.length_cons]; omega
          · rw [← el, List.length_append, List.length_singleton]; omega
        · intro μ4 k p f4 g4 rf
          exact after μ4 (f1.tr (f2.tr f4)) k p g4 (r2.trF rf)
    refine ⟨fun z => go (Or.inl z), fun z => ⟨fun z2 => go (Or.inr (Or.inl z2)), fun z2 => ⟨fun z3 => go (Or.inr (Or.inr z3)), fun z3 => ?_⟩⟩⟩
    rw [h1.2.2.2.2.1]
    exact s_fail (d := d + 10 * (7 - o) + 9) h1 (by decide) (fun μ2 f2 g2 => kf μ2 1 _ (f1.tr f2) g2 (r1.trF (gD hk hlf1 hts ps7 (by unfold isCm; omega))))
  · intro μ4 k p f4 g4 rf x2 e2
    rw [g4.2.2.2.2.2] at e2
    subst e2
    exact ⟨fun z => absurd z (by decide), fun _ => ⟨fun z => absurd z (by decide), fun _ => ⟨fun z => absurd z (by decide), fun _ => c_fail2 (d := d + 10 * (7 - o) + 9) (by rw [g4.2.2.1]; exact g4.2.2.2.1) g4.2.2.2.2.2 (kf μ4 k p f4 g4 rf)⟩⟩⟩
theorem p_fact (hq : q < 4) (HS : CSum G T L t b q (n + 1)) (HF : CFact G T L t b q n) (HT : CTest G T L t b q n) : CFact G T L t b q (n + 1) := by
  intro d e o kd ph bg pr ops fs CC μ K hn h ho hf hm hc hk hpre ks kf
  have hpre : tsK kd ∧ ph = 0 ∧ bg ≠ 0 ∧ tr ops < 4 := hpre
  obtain ⟨hts, hph, hbg, htr⟩ := hpre
  subst hph
  have hfst : fstP kd bg := ⟨hts, hbg⟩
  have hb : bdO o fs ops q := ⟨hq, ho, by omega, by omega⟩
  have hlf := h.2.2.2.1
  have he := h.2.1
  have hL16 : L ≤ 1600 := h.1.1.2.2.2
  have ht9 := h.1.2.1
  refine EX6_readFact ?_
  rw [h.2.2.2.2.2.1]
  refine ⟨fun y => ?_, fun y => ?_, fun y => ?_, fun y => ?_⟩
  · -- a test in brackets
    have ne := nend (T := T) he (by omega)
    have rb := rdB (G := G) (b := b) (kd := kd) (ph := 0) (bg := bg) (pr := pr) (CL := CC) hb hlf hfst y
    have fsl : (((kd, 0, 0, pr), ops) :: fs : List Fr).length ≤ o + 1 := by show fs.length + 1 ≤ o + 1; omega
    have opl : ([] ++ opA (((kd, 0, 0, pr), ops) :: fs)).length = (ops ++ opA fs).length := by rw [List.nil_append]; rfl
    refine s_open (d := d + 10 * (7 - o) + 7) h ho (by decide) y (fun h7 μ1 f1 g1 => ⟨fun _ => kf μ1 5 _ f1 g1 (rb.2 h7), z0⟩) (fun h7 hf2 μ1 f1 g1 => ⟨z1, fun _ => ?_⟩) (fun h7 μ1 f1 h1 => ⟨z1, fun _ => ?_⟩)
    · exact f_test (d := d + 10 * (7 - o) + 2) g1 (fun μ2 f2 g2 => f_close (d := d + 10 * (7 - o) + 8) g2 (by decide) (fun μ3 f3 g3 => kf μ3 1 _ (f1.tr (f2.tr f3)) g3 ((rb.1 h7).trF (rdL0 ⟨hq, by omega, by show fs.length + 1 ≤ 15; omega, by rw [opl]; omega⟩ hf2))))
    · have d6 : d + 10 * (7 - o) + 11 = (d + 7) + 10 * (7 - (o + 1)) + 14 := by omega
      show c_v G (d + 10 * (7 - o) + 11) YX6_readTest [vR 2 0] μ1 _
      rw [d6]
      refine HT (d + 7) (tEn T L e) (o + 1) 5 0 1 none [] (((kd, 0, 0, pr), ops) :: fs) CC μ1 _ (by omega) h1 (by omega) fsl (by rw [opl]; omega) (by rw [opl]; omega) (by decide) ⟨Or.inr (Or.inl rfl), rfl, by decide, by decide⟩ ?_ ?_
      · intro μ4 e4 ph4 bg4 δ4 E4 CL4 f4 h4 lt4 r4 eq4 al4 ty4 cnt4 ps4
        rw [List.append_nil] at r4
        have hgo : nGo 5 ph4 (tTk T L e4) := ⟨fun _ => ⟨ps4.1, ps4.2.2.2, ps4.2.2.1⟩, ps4.2.1⟩
        have gg := gG (G := G) (b := b) (q := q) (o := o) (p := 0) (bg := bg4) (pr := none) (kd2 := kd) (ph2 := 0) (bg2 := 0) (pr2 := pr) (ops2 := ops) (fs := fs) (CL := CL4) (Or.inr (Or.inr rfl)) h4.2.2.2.1 hgo (fun x hx => (al4 x hx).2) (fun z => absurd z (by decide))
        rw [opl] at cnt4
        have r14 := (rb.1 h7).tr r4
        rw [← d6]
        refine s_close (d := d + 10 * (7 - o) + 6) h4 (by omega) (by decide) (fun tx μ7 f7 g7 => ?_) (fun tx hf7 μ7 f7 g7 => ?_) (fun tx μ7 f7 h7' => ?_)
        · exact kf μ7 1 _ (f1.tr (f4.tr f7)) g7 (r14.trF (gg.2 tx))
        · exact kf μ7 1 _ (f1.tr (f4.tr f7)) g7 ((r14.tr (gg.1 tx)).trF (rdL1 hk hf7))
        · have ne4 := nend (T := T) h4.2.1 (by omega)
          have r7 := r14.tr (gg.1 tx)
          rw [if_pos rfl, if_neg (by decide), eq4, List.append_nil] at r7
          exact ks μ7 (tEn T L e4) 2 0 [] E4 _ (f1.tr (f4.tr f7)) h7' (by omega) r7 (by rw [show tks [] = [] from rfl, List.append_nil]) (fun x hx => by cases hx) (fun ts hts => ty4 ts (by omega)) (by omega) ⟨by decide, fun z => absurd z (by decide)⟩
      · intro μ4 kk p f4 g4 rf
        rw [← d6]
        exact f_close (d := d + 10 * (7 - o) + 8) g4 (by decide) (fun μ7 f7 g7 => kf μ7 kk p (f1.tr (f4.tr f7)) g7 ((rb.1 h7).trF rf))
  · -- not
    have ne := nend (T := T) he (by omega)
    have rn := rdN (G := G) (b := b) (kd := kd) (ph := 0) (bg := bg) (pr := pr) (CL := CC) hb hlf hfst y
    have opl : ((43 :: ops) ++ opA fs).length = (ops ++ opA fs).length + 1 := rfl
    have after : ∀ (μ3 : m_M), ofC t μ μ3 → ∀ k p, CF t k p μ3 → RdF G T L b q (e, o, 0, ((kd, 0, bg, pr), ops) :: fs, CC) k p → ∀ μ4 : m_M, μ4 = m_up μ3 2 0 3 (w32 ((μ3 2 0 3) - 1)) → ∃ t5 : Nat, μ4 2 0 1 = 100 * (t5 : Int) ∧ m_cls t5 = 9 ∧ c_v G (d + 10 * (7 - o) + 10) YX10_addCode [vR t5 0, vI 278] μ4 (fun μ6 => K μ6) := fun μ3 f3 k p g3 rf μ4 e4 => by
      have g4 := g3.opn (w32 ((μ3 2 0 3) - 1))
      rw [← e4] at g4
      exact ⟨t, g4.1.2.1.1, cls9 ht9, f_add (d := d + 10 * (7 - o) + 9) g4.1 (fun μ5 f5 g5 => kf μ5 k p (f3.tr (g4.2.tr f5)) g5 rf)⟩
    refine EX6_readNot (s_open (d := d + 10 * (7 - o) + 6) h ho (by decide) y (fun h7 μ1 f1 g1 => ⟨fun _ => kf μ1 5 _ f1 g1 (rn.2 h7), z0⟩) (fun h7 hf2 μ1 f1 g1 => ⟨z1, fun _ => ?_⟩) (fun h7 μ1 f1 h1 => ⟨z1, fun _ => ?_⟩))
    · exact f_fact (d := d + 10 * (7 - o) + 3) g1 (fun μ2 f2 g2 => after μ2 (f1.tr f2) 1 _ g2 ((rn.1 h7).trF (rdL0 ⟨hq, by omega, by omega, by rw [opl]; omega⟩ hf2)))
    · have d6 : d + 10 * (7 - o) + 10 = (d + 8) + 10 * (7 - (o + 1)) + 12 := by omega
      show c_v G (d + 10 * (7 - o) + 10) YX6_readFact [vR 2 0] μ1 _
      rw [d6]
      refine HF (d + 8) (tEn T L e) (o + 1) kd 0 bg pr (43 :: ops) fs CC μ1 _ (by omega) h1 (by omega) (by omega) (by rw [opl]; omega) (by rw [opl]; omega) hk ⟨hts, rfl, hbg, by show rk 43 < 4; decide⟩ ?_ ?_
      · intro μ4 e4 ph4 bg4 δ4 E4 CL4 f4 h4 lt4 r4 eq4 al4 ty4 cnt4 ps4
        rw [opl] at cnt4
        have r14 := (rn.1 h7).tr r4
        intro μ5 e5
        rw [h4.1.2.2.1.2.2, show w32 (((o + 1 : Nat) : Int) - 1) = (o : Int) by rw [w32_le (by omega) (by omega)]; omega] at e5
        have h5 := h4.opn o
        rw [← e5] at h5
        rw [← d6]
        refine ⟨t, h5.1.1.2.2.1.1, cls9 ht9, s_add (d := d + 10 * (7 - o) + 9) h5.1 (by have := h4.2.1; omega) (fun μ6 f6 h6 => ?_)⟩
        rw [List.append_assoc] at h6
        refine ks μ6 e4 ph4 bg4 (δ4 ++ [43]) (E4 ++ [278]) CL4 (f1.tr (f4.tr (h5.2.tr f6))) h6 (by omega) ?_ ?_ ?_ ?_ ?_ ps4
        · rw [nots_app, List.append_assoc, show o + (nots δ4 + nots [43]) = o + 1 + nots δ4 by show o + (nots δ4 + 1) = _; omega]; exact r14
        · rw [tks_app, ← List.append_assoc, eq4, List.append_assoc]; rfl
        · intro x hx
          rcases List.mem_append.1 hx with z | z
          · exact al4 x z
          · rw [List.mem_singleton.1 z]; exact ⟨by decide, by decide⟩
        · intro ts hts
          rw [tcs_app _ _ ts (true :: ts) (ty4 ts (by omega)), tcs_one (ts1 := true :: ts) rfl]
          simp only [List.length_cons]; omega
        · rw [← List.append_assoc, List.length_append, List.length_singleton]; omega
      · intro μ4 kk p f4 g4 rf
        rw [← d6]
        exact after μ4 (f1.tr f4) kk p g4 ((rn.1 h7).trF rf)
  · -- all
    have ne := nend (T := T) he (by omega)
    have ra := rdA (G := G) (b := b) (kd := kd) (ph := 0) (bg := bg) (pr := pr) (CL := CC) hb hlf hfst y
    refine ⟨t, h.1.2.2.1.1, cls9 ht9, s_add (d := d + 10 * (7 - o) + 10) h (by omega) (fun μ1 f1 h1 => s_next (d := d + 10 * (7 - o) + 8) h1 (by omega) (fun hf2 μ2 f2 g2 => kf μ2 1 _ (f1.tr f2) g2 (ra.trF (rdL1 hk hf2))) (fun μ2 f2 h2 => ?_))⟩
    refine ks μ2 (tEn T L e) 2 0 [] [279] _ (f1.tr f2) h2 (by omega) ra (by rw [show tks [] = [] from rfl, List.append_nil]) (fun x hx => by cases hx) (fun ts hts => tcs_one rfl ?_) ?_ ⟨by decide, fun z => absurd z (by decide)⟩
    · simp only [List.length_cons]; omega
    · rw [List.length_append, List.length_singleton]; omega
  · exact c_comp hq HS hn h ho hf hm hc hk hts htr (fun _ => by omega) ks kf
end PC
