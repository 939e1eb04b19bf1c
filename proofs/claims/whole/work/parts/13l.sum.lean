/-! ===== the class reads a formula as the reference does: parts, products, sums ===== -/
theorem nend {T : Nat → Int} {L e : Nat} (he : e ≤ L) (z : tTk T L e ≠ 284) : e < tEn T L e ∧ tEn T L e ≤ L := by
  have g1 := tAt_in (T := T) he
  have g2 := tEn_in (T := T) he
  by_cases y : L ≤ tAt T L e
  · exact absurd (tk_end y) z
  · have := g2.2.2 (by omega); omega
section PB
variable {G : m_G} {T : Nat → Int} {L t b q n : Nat}
theorem p_part (hq : q < 4) (HS : CSum G T L t b q n) (HT : CTest G T L t b q n) : CPart G T L t b q (n + 1) := by
  intro d e o kd ph bg pr ops fs CC μ K hn h ho hf hm hc hk hpre ks kf
  have hpre : nFs kd bg (tTk T L e) := hpre
  have hb : bdO o fs ops q := ⟨hq, ho, by omega, by omega⟩
  have hlf := h.2.2.2.1
  have he := h.2.1
  have hL16 : L ≤ 1600 := h.1.1.2.2.2
  have ht9 := h.1.2.1
  refine EX6_readPart (fun x1 e1 => ?_)
  rw [h.2.2.2.2.2.1] at e1
  refine ⟨fun y => ?_, fun y => ?_, fun y => ?_, fun y => ?_, fun y => ?_, fun y => ?_⟩
  · -- a bracket
    have t40 : tTk T L e = 40 := by omega
    have ne := nend (T := T) he (by omega)
    have rp := rdP (G := G) (b := b) (kd := kd) (ph := ph) (bg := bg) (pr := pr) (CL := CC) hb hlf t40
    have fsl : (((kd, ph, 0, pr), ops) :: fs : List Fr).length ≤ o + 1 := by show fs.length + 1 ≤ o + 1; omega
    have opl : ([] ++ opA (((kd, ph, 0, pr), ops) :: fs)).length = (ops ++ opA fs).length := by rw [List.nil_append]; rfl
    refine EX6_readBracket (s_open (d := d + 10 * (7 - o) + 2) h ho (by decide) t40 (fun h7 μ1 f1 g1 => ⟨fun _ => kf μ1 5 _ f1 g1 (rp.2 h7), z0⟩) (fun h7 hf2 μ1 f1 g1 => ⟨z1, fun _ => ?_⟩) (fun h7 μ1 f1 h1 => ⟨z1, fun _ => ?_⟩))
    · exact f_sum (d := d + 10 * (7 - o) + 1) g1 (fun μ2 f2 g2 => f_close (d := d + 10 * (7 - o) + 3) g2 (by decide) (fun μ3 f3 g3 => kf μ3 1 _ (f1.tr (f2.tr f3)) g3 ((rp.1 h7).trF (rdL0 ⟨hq, by omega, by show fs.length + 1 ≤ 15; omega, by rw [opl]; omega⟩ hf2))))
    · have d6 : d + 10 * (7 - o) + 6 = (d + 6) + 10 * (7 - (o + 1)) + 10 := by omega
      show c_v G (d + 10 * (7 - o) + 6) YX6_readSum [vR 2 0] μ1 _
      rw [d6]
      refine HS (d + 6) (tEn T L e) (o + 1) 2 0 1 none [] (((kd, ph, 0, pr), ops) :: fs) CC μ1 _ (by omega) h1 (by omega) fsl (by rw [opl]; omega) (by rw [opl]; omega) (by decide) ⟨fun z => by have := z.1; omega, by decide, by decide⟩ ?_ ?_
      · intro μ4 e4 ph4 bg4 δ4 E4 CL4 f4 h4 lt4 r4 eq4 al4 ty4 cnt4 ps4
        rw [List.append_nil] at r4
        have ph0 : ph4 = 0 := ps4.1.1
        subst ph0
        have hgo : nGo 2 0 (tTk T L e4) := ⟨fun z => by have : (2 : Int) = 1 ∨ (2 : Int) = 5 ∨ (2 : Int) = 6 := z; omega, fun _ => ps4.2⟩
        have gg := gG (G := G) (b := b) (q := q) (o := o) (p := 0) (bg := bg4) (pr := none) (kd2 := kd) (ph2 := ph) (bg2 := 0) (pr2 := pr) (ops2 := ops) (fs := fs) (CL := CL4) (Or.inl rfl) h4.2.2.2.1 hgo (fun x hx => (al4 x hx).2) (fun z => absurd z (by decide))
        rw [opl] at cnt4
        have r14 := (rp.1 h7).tr r4
        rw [← d6]
        refine s_close (d := d + 10 * (7 - o) + 1) h4 (by omega) (by decide) (fun tx μ7 f7 g7 => ?_) (fun tx hf7 μ7 f7 g7 => ?_) (fun tx μ7 f7 h7' => ?_)
        · exact kf μ7 1 _ (f1.tr (f4.tr f7)) g7 (r14.trF (gg.2 tx))
        · exact kf μ7 1 _ (f1.tr (f4.tr f7)) g7 ((r14.tr (gg.1 tx)).trF (rdL1 hk hf7))
        · have ne4 := nend (T := T) h4.2.1 (by omega)
          have r7 := r14.tr (gg.1 tx)
          rw [if_neg (by decide), if_neg (by decide), eq4, List.append_nil] at r7
          exact ks μ7 (tEn T L e4) ph 0 [] E4 _ (f1.tr (f4.tr f7)) h7' (by omega) r7 (by rw [show tks [] = [] from rfl, List.append_nil]) (fun x hx => by cases hx) (fun ts hts => ty4 ts (by omega)) (by omega) ⟨rfl, rfl⟩
      · intro μ4 kk p f4 g4 rf
        rw [← d6]
        exact f_close (d := d + 10 * (7 - o) + 3) g4 (by decide) (fun μ7 f7 g7 => kf μ7 kk p (f1.tr (f4.tr f7)) g7 ((rp.1 h7).trF rf))
  · exact c_choice hq HS HT hn h ho hf hm hc hk (by omega) e1.symm ks kf
  · exact c_choice hq HS HT hn h ho hf hm hc hk (by omega) e1.symm ks kf
  · exact c_choice hq HS HT hn h ho hf hm hc hk (by omega) e1.symm ks kf
  · -- a number
    have t283 : tTk T L e = 283 := by omega
    have ne := nend (T := T) he (by omega)
    have vin := tVal_in he hlf t283 (fun i hi => (h.1.1.2.1 i hi).1)
    have v6 : μ 3 0 6 = tVal T L e := h.2.2.2.2.2.2.2.1 t283
    rw [v6, w32_le (by omega) (by omega)]
    have rt := rdT (G := G) (b := b) (kd := kd) (ph := ph) (bg := bg) (pr := pr) (CL := CC) hb hlf (Or.inl t283)
    rw [if_pos t283] at rt
    refine ⟨t, h.1.2.2.1.1, cls9 ht9, s_add (d := d + 10 * (7 - o) + 6) h (by omega) (fun μ1 f1 h1 => s_next (d := d + 10 * (7 - o) + 4) h1 (by omega) (fun hf2 μ2 f2 g2 => kf μ2 1 _ (f1.tr f2) g2 (rt.trF (rdL1 hk hf2))) (fun μ2 f2 h2 => ?_))⟩
    refine ks μ2 (tEn T L e) ph 0 [] [1000 + tVal T L e] _ (f1.tr f2) h2 (by omega) rt (by rw [show tks [] = [] from rfl, List.append_nil]) (fun x hx => by cases hx) (fun ts hts => tcs_one ?_ ?_) ?_ ⟨rfl, rfl⟩
    · unfold t1
      rw [if_pos (by omega), if_pos (by omega)]
    · simp only [List.length_cons]; omega
    · rw [List.length_append, List.length_singleton]; omega
  · -- a word
    refine EX6_readFactWord (s_may (d := d + 10 * (7 - o) + 5) hq h.1.2.2.1.2.1 (ite0 (fun y2 => ?_) (fun y2 => ?_)))
    · rw [h.2.2.2.2.1]
      exact s_fail (d := d + 10 * (7 - o) + 5) h (by decide) (fun μ1 f1 g1 => kf μ1 1 _ f1 g1 (rdX hb hlf (by omega) (by rw [← e1]; exact y2) hpre))
    · have tb : 256 ≤ tTk T L e ∧ tTk T L e ≤ 274 := by
        rw [e1] at y2
        simp only [p_fw, Bool.or_eq_true, Bool.and_eq_true, beq_iff_eq, decide_eq_true_eq] at y2
        omega
      have ne := nend (T := T) he (by omega)
      have rt := rdT (G := G) (b := b) (kd := kd) (ph := ph) (bg := bg) (pr := pr) (CL := CC) hb hlf (Or.inr ⟨tb.1, by rw [← e1]; exact y2⟩)
      rw [if_neg (by omega)] at rt
      refine ⟨t, h.1.2.2.1.1, cls9 ht9, s_add (d := d + 10 * (7 - o) + 5) h (by omega) (fun μ1 f1 h1 => s_next (d := d + 10 * (7 - o) + 3) h1 (by omega) (fun hf2 μ2 f2 g2 => kf μ2 1 _ (f1.tr f2) g2 (rt.trF (rdL1 hk hf2))) (fun μ2 f2 h2 => ?_))⟩
      rw [e1] at h2 y2
      refine ks μ2 (tEn T L e) ph 0 [] [tTk T L e] _ (f1.tr f2) h2 (by omega) rt (by rw [show tks [] = [] from rfl, List.append_nil]) (fun x hx => by cases hx) (fun ts hts => tcs_one ?_ ?_) ?_ ⟨rfl, rfl⟩
      · have hx : tTk T L e = 257 ∨ tTk T L e = 258 ∨ tTk T L e = 260 ∨ tTk T L e = 268 ∨ tTk T L e = 269 ∨ tTk T L e = 270 ∨ tTk T L e = 271 ∨ tTk T L e = 272 ∨ tTk T L e = 273 ∨ tTk T L e = 274 := by
          have y3 := y2
          simp only [p_fw, Bool.or_eq_true, Bool.and_eq_true, beq_iff_eq, decide_eq_true_eq] at y3
          omega
        have n1 : p_ar (tTk T L e) = false := by rcases hx with z | z | z | z | z | z | z | z | z | z <;> rw [z] <;> rfl
        have n2 : p_cm (tTk T L e) = false := by rcases hx with z | z | z | z | z | z | z | z | z | z <;> rw [z] <;> rfl
        have n3 : p_lo (tTk T L e) = false := by rcases hx with z | z | z | z | z | z | z | z | z | z <;> rw [z] <;> rfl
        unfold t1
        rw [if_neg (by omega), if_neg (by omega), if_neg (by omega), if_neg (by omega), n1, n2, n3, if_neg (by decide), if_neg (by decide), if_neg (by decide), if_pos y2]
      · simp only [List.length_cons]; omega
      · rw [List.length_append, List.length_singleton]; omega
theorem tk_opx {x : Int} (h : isAr x) : tk (opx x) 0 = x ∧ opx x ≠ 0 ∧ nots [opx x] = 0 ∧ rk (opx x) = (if x = 43 ∨ x = 45 then 5 else 6) ∧ ∀ (q : Nat) (ts : List Bool), t1 q x (false :: false :: ts) = some (false :: ts) := by
  unfold isAr at h
  rcases h with e | e | e | e | e <;> subst e <;> exact ⟨rfl, by decide, rfl, rfl, fun _ _ => rfl⟩
theorem p_product (hq : q < 4) (HP : CPart G T L t b q n) : CProd G T L t b q n := by
  intro d e o kd ph bg pr ops fs CC μ K hn h ho hf hm hc hk hpre ks kf
  have hpre : nFs kd bg (tTk T L e) ∧ tr ops < 6 ∧ ph < 2 := hpre
  have hL16 : L ≤ 1600 := h.1.1.2.2.2
  have ht9 := h.1.2.1
  refine EX6_readProduct (fun X C R => ?_)
  have loopF : ∀ (μ1 : m_M) (l k p : Int), ofC t μ μ1 → CF t k p μ1 → RdF G T L b q (e, o, 0, ((kd, ph, bg, pr), ops) :: fs, CC) k p → mW G X YX6_readProduct μ1 6 [some (vR 2 0), some (vI l), none] [] := fun μ1 l k p f1 g1 rf => by
    refine VX6_readProduct_6 C R ⟨fun _ => kf μ1 k p f1 g1 rf, fun _ => ?_⟩
    rw [g1.2.2.2.2.2]
    exact EX6_isProductSign (d := d + 10 * (7 - o) + 7) ⟨fun z => absurd z (by decide), fun _ => ⟨fun z => absurd z (by decide), fun _ => ⟨fun _ => ⟨fun _ => kf μ1 k p f1 g1 rf, z0⟩, fun z => absurd z (by decide)⟩⟩⟩
  have loop : ∀ (r : Nat) (μ1 : m_M) (e1 l : Nat) (δ E CL1 : List Int), L - e1 < r → l < e1 → ofC t μ μ1 → CS T L t q μ1 e1 o (CC ++ E) → e < e1 → Rd G T L b q (e, o, 0, ((kd, ph, bg, pr), ops) :: fs, CC) (e1, o + nots δ, 1, ((kd, ph, 0, pr), δ ++ ops) :: fs, CL1) → CL1 ++ tks δ = CC ++ E → (∀ x ∈ δ, 6 ≤ rk x ∧ x ≠ 0) → (∀ ts : List Bool, ts.length ≤ 7 * o + 4 → tcs q E ts = some (false :: ts)) → (CC ++ E).length + (ops ++ opA fs).length ≤ e1 → mW G X YX6_readProduct μ1 6 [some (vR 2 0), some (vI (l : Int)), none] [] := by
    intro r
    induction r with
    | zero => intro _ _ _ _ _ _ z; omega
    | succ r ih =>
      intro μ1 e1 l δ E CL1 hr hl f1 h1 lt1 r1 eq1 al1 ty1 cnt1
      have he1 := h1.2.1
      have hlf1 := h1.2.2.2.1
      refine VX6_readProduct_6 C R ⟨fun z => by omega, fun _ => ?_⟩
      rw [h1.2.2.2.2.2.1]
      have stop : ¬ (tTk T L e1 = 42 ∨ tTk T L e1 = 47 ∨ tTk T L e1 = 37) → K μ1 := fun z => ks μ1 e1 ph 0 δ E CL1 f1 h1 lt1 r1 eq1 al1 ty1 cnt1 ⟨⟨rfl, rfl⟩, z⟩
      have go : (tTk T L e1 = 42 ∨ tTk T L e1 = 47 ∨ tTk T L e1 = 37) → ∀ x3 : Int, x3 = tTk T L e1 → c_v G (d + 10 * (7 - o) + 8) YX7_next [vR 3 0] μ1 (fun μ4 => c_v G (d + 10 * (7 - o) + 8) YX6_readPart [vR 2 0] μ4 (fun μ5 => ∃ t6 : Nat, μ5 2 0 1 = 100 * (t6 : Int) ∧ m_cls t6 = 9 ∧ c_v G (d + 10 * (7 - o) + 8) YX10_addCode [vR t6 0, vI x3] μ5 (fun μ7 => ∀ x8 : Int, x8 = w32 ((l : Int) + 1) → mW G X YX6_readProduct μ7 6 [some (vR 2 0), some (vI x8), none] []))) := fun ht x3 ex => by
        subst ex
        have ne1 := nend (T := T) he1 (by omega)
        have har : isAr (tTk T L e1) := by unfold isAr; omega
        obtain ⟨k1, k2, k3, k4, k5⟩ := tk_opx har
        have ga := gA (G := G) (b := b) (q := q) (o := o) (kd := kd) (ph := ph) (bg := 0) (pr := pr) (ops := ops) (fs := fs) (CL := CL1) hk hlf1 hpre.2.2 har (fun x hx => by rw [if_neg (by omega)]; exact al1 x hx) (by rw [if_neg (by omega)]; exact hpre.2.1) (by omega)
        rw [eq1] at ga
        have r2 := r1.tr ga
        have opl : ((opx (tTk T L e1) :: ops) ++ opA fs).length = (ops ++ opA fs).length + 1 := rfl
        have after : ∀ (μ5 : m_M), ofC t μ μ5 → ∀ k p, CF t k p μ5 → RdF G T L b q (e, o, 0, ((kd, ph, bg, pr), ops) :: fs, CC) k p → ∃ t6 : Nat, μ5 2 0 1 = 100 * (t6 : Int) ∧ m_cls t6 = 9 ∧ c_v G (d + 10 * (7 - o) + 8) YX10_addCode [vR t6 0, vI (tTk T L e1)] μ5 (fun μ7 => ∀ x8 : Int, x8 = w32 ((l : Int) + 1) → mW G X YX6_readProduct μ7 6 [some (vR 2 0), some (vI x8), none] []) := fun μ5 f5 k p g5 rf => ⟨t, g5.2.1.1, cls9 ht9, f_add (d := d + 10 * (7 - o) + 7) g5 (fun μ6 f6 g6 x8 _ => loopF μ6 x8 k p (f5.tr f6) g6 rf)⟩
        refine s_next (d := d + 10 * (7 - o) + 5) h1 (by omega) (fun hf2 μ2 f2 g2 => ?_) (fun μ2 f2 h2 => ?_)
        · exact f_part (d := d + 10 * (7 - o) + 5) g2 (fun μ3 f3 g3 => after μ3 (f1.tr (f2.tr f3)) 1 _ g3 (r2.trF (rdL0 ⟨hq, ho, by omega, by rw [opl]; omega⟩ hf2)))
        · refine HP d (tEn T L e1) o kd ph 0 pr (opx (tTk T L e1) :: ops) fs (CC ++ E) μ2 _ (by omega) h2 ho hf (by rw [opl]; omega) (by rw [opl]; omega) hk (fun z => absurd rfl z.2) ?_ ?_
          · intro μ4 e4 ph4 bg4 δ4 E4 CL4 f4 h4 lt4 r4 eq4 al4 ty4 cnt4 ps4
            have hd := d7 al4
            subst hd
            have ps4 : ph4 = ph ∧ bg4 = 0 := ps4
            obtain ⟨ps5, ps6⟩ := ps4
            rw [ps5, ps6] at r4
            rw [opl] at cnt4
            rw [show tks [] = [] from rfl, List.append_nil] at eq4
            have r4' := r2.tr r4
            refine ⟨t, h4.1.2.2.1.1, cls9 ht9, s_add (d := d + 10 * (7 - o) + 7) h4 (by have := h4.2.1; omega) (fun μ5 f5 h5 x8 e8 => ?_)⟩
            rw [w32_s (by omega)] at e8
            subst e8
            have el : CC ++ E ++ E4 ++ [tTk T L e1] = CC ++ (E ++ E4 ++ [tTk T L e1]) := by simp only [List.append_assoc]
            rw [el] at h5
            refine ih μ5 e4 (l + 1) [opx (tTk T L e1)] (E ++ E4 ++ [tTk T L e1]) CL4 (by omega) (by omega) (f1.tr (f2.tr (f4.tr f5))) h5 (by omega) ?_ ?_ ?_ ?_ ?_
            · rw [k3]; exact r4'
            · rw [show tks [opx (tTk T L e1)] = [tk (opx (tTk T L e1)) 0] from rfl, k1, eq4, el]
            · intro x hx
              rw [List.mem_singleton.1 hx, k4, if_neg (by omega)]
              exact ⟨Int.le_refl _, k2⟩
            · intro ts hts
              rw [tcs_app _ _ ts (false :: false :: ts), tcs_one (k5 q ts)]
              · simp only [List.length_cons]; omega
              · rw [tcs_app _ _ ts (false :: ts) (ty1 ts hts), ty4]
                simp only [List.length_cons]; omega
            · rw [← el, List.length_append, List.length_singleton]; omega
          · intro μ4 k p f4 g4 rf
            exact after μ4 (f1.tr (f2.tr f4)) k p g4 (r2.trF rf)
      exact EX6_isProductSign (d := d + 10 * (7 - o) + 7) ⟨fun z => ⟨z1, fun _ x3 ex => go (Or.inl z) x3 (by rw [ex, h1.2.2.2.2.2.1])⟩, fun z => ⟨fun z2 => ⟨z1, fun _ x3 ex => go (Or.inr (Or.inl z2)) x3 (by rw [ex, h1.2.2.2.2.2.1])⟩, fun z2 => ⟨fun z3 => ⟨fun _ => stop (by omega), z0⟩, fun z3 => ⟨z1, fun _ x3 ex => go (Or.inr (Or.inr z3)) x3 (by rw [ex, h1.2.2.2.2.2.1])⟩⟩⟩⟩
  refine HP d e o kd ph bg pr ops fs CC μ _ hn h ho hf (by omega) hc hk hpre.1 ?_ ?_
  · intro μ4 e4 ph4 bg4 δ4 E4 CL4 f4 h4 lt4 r4 eq4 al4 ty4 cnt4 ps4
    have ps4 : ph4 = ph ∧ bg4 = 0 := ps4
    obtain ⟨ps5, ps6⟩ := ps4
    rw [ps5, ps6] at r4
    exact loop (L - e4 + 1) μ4 e4 0 δ4 E4 CL4 (by omega) (by omega) f4 h4 lt4 r4 eq4 (fun x hx => ⟨by have := (al4 x hx).1; omega, (al4 x hx).2⟩) (fun ts hts => ty4 ts (by omega)) cnt4
  · intro μ4 k p f4 g4 rf
    exact loopF μ4 0 k p f4 g4 rf
end PB
