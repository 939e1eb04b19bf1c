/-! ===== the class reads a formula as the reference does: a part ===== -/
theorem tcs_app {q : Nat} : ∀ (E E2 : List Int) (ts ts1 : List Bool), tcs q E ts = some ts1 → tcs q (E ++ E2) ts = tcs q E2 ts1 := by
  intro E
  induction E with
  | nil => intro E2 ts ts1 h; cases h; rfl
  | cons x E ih =>
    intro E2 ts ts1 h
    have st : ∀ E : List Int, tcs q (x :: E) ts = match t1 q x ts with
      | some ts' => if ts'.length ≤ 61 then tcs q E ts' else none
      | none => none := fun _ => rfl
    show tcs q (x :: (E ++ E2)) ts = _
    rw [st] at h ⊢
    cases ht : t1 q x ts with
    | none => rw [ht] at h; cases h
    | some ts' =>
      rw [ht] at h
      simp only at h ⊢
      split at h
      · next hl => rw [if_pos hl]; exact ih E2 ts' ts1 h
      · cases h
theorem tcs_one {q : Nat} {x : Int} {ts ts1 : List Bool} (h : t1 q x ts = some ts1) (hl : ts1.length ≤ 61) : tcs q [x] ts = some ts1 := by
  unfold tcs
  rw [h]
  simp only
  rw [if_pos hl]
  rfl
def SUC (G : m_G) (T : Nat → Int) (L t b q : Nat) (μ : m_M) (e o : Nat) (kd ph bg : Int) (pr : Option Int) (ops : List Int) (fs : List Fr) (CC : List Int) (m : Int) (c : Nat) (ty : Bool) (ps : Int → Int → Int → Int → Prop) (K : m_M → Prop) : Prop :=
  ∀ (μ1 : m_M) (e' : Nat) (ph' bg' : Int) (δ E CL1 : List Int), ofC t μ μ1 → CS T L t q μ1 e' o (CC ++ E) → e < e' → Rd G T L b q (e, o, 0, ((kd, ph, bg, pr), ops) :: fs, CC) (e', o + nots δ, 1, ((kd, ph', bg', pr), δ ++ ops) :: fs, CL1) → CL1 ++ tks δ = CC ++ E → (∀ x ∈ δ, m ≤ rk x ∧ x ≠ 0) → (∀ ts : List Bool, ts.length ≤ 7 * o + c → tcs q E ts = some (ty :: ts)) → (CC ++ E).length + (ops ++ opA fs).length ≤ e' → ps ph ph' bg' (tTk T L e') → K μ1
def FAI (G : m_G) (T : Nat → Int) (L t b q : Nat) (μ : m_M) (s : Cfg) (K : m_M → Prop) : Prop := ∀ (μ1 : m_M) (k p : Int), ofC t μ μ1 → CF t k p μ1 → RdF G T L b q s k p → K μ1
def CTR (G : m_G) (T : Nat → Int) (L t b q n D : Nat) (Y : m_Y) (m : Int) (c : Nat) (ty : Bool) (pre : Int → Int → Int → List Int → Int → Prop) (ps : Int → Int → Int → Int → Prop) : Prop :=
  ∀ (d e o : Nat) (kd ph bg : Int) (pr : Option Int) (ops : List Int) (fs : List Fr) (CC : List Int) (μ : m_M) (K : m_M → Prop), L - e < n → CS T L t q μ e o CC → o ≤ 7 → fs.length ≤ o → (ops ++ opA fs).length ≤ 7 * o + c → CC.length + (ops ++ opA fs).length ≤ e → 0 ≤ kd ∧ kd ≤ 6 → pre kd ph bg ops (tTk T L e) → SUC G T L t b q μ e o kd ph bg pr ops fs CC m c ty ps K → FAI G T L t b q μ (e, o, 0, ((kd, ph, bg, pr), ops) :: fs, CC) K → c_v G (d + 10 * (7 - o) + D) Y [vR 2 0] μ K
def nFs (kd bg tok : Int) : Prop := fstP kd bg → ¬ tok = 278 ∧ ¬ tok = 91 ∧ ¬ tok = 279
def CPart (G : m_G) (T : Nat → Int) (L t b q n : Nat) : Prop := CTR G T L t b q n 8 YX6_readPart 7 5 false (fun kd _ bg _ tok => nFs kd bg tok) (fun ph ph' bg' _ => ph' = ph ∧ bg' = 0)
def CProd (G : m_G) (T : Nat → Int) (L t b q n : Nat) : Prop := CTR G T L t b q n 9 YX6_readProduct 6 4 false (fun kd ph bg ops tok => nFs kd bg tok ∧ tr ops < 6 ∧ ph < 2) (fun ph ph' bg' tok => (ph' = ph ∧ bg' = 0) ∧ ¬ (tok = 42 ∨ tok = 47 ∨ tok = 37))
def CSum (G : m_G) (T : Nat → Int) (L t b q n : Nat) : Prop := CTR G T L t b q n 10 YX6_readSum 5 3 false (fun kd ph bg ops tok => nFs kd bg tok ∧ tr ops < 5 ∧ ph < 2) (fun ph ph' bg' tok => (ph' = ph ∧ bg' = 0) ∧ ¬ isAr tok)
def CFact (G : m_G) (T : Nat → Int) (L t b q n : Nat) : Prop := CTR G T L t b q n 12 YX6_readFact 3 2 true (fun kd ph bg ops _ => tsK kd ∧ ph = 0 ∧ bg ≠ 0 ∧ tr ops < 4) (fun _ ph' _ tok => ph' ≠ 0 ∧ (ph' < 2 → ¬ isAr tok))
def CBoth (G : m_G) (T : Nat → Int) (L t b q n : Nat) : Prop := CTR G T L t b q n 13 YX6_readBoth 2 1 true (fun kd ph bg ops _ => tsK kd ∧ ph = 0 ∧ bg ≠ 0 ∧ tr ops < 2) (fun _ ph' _ tok => ph' ≠ 0 ∧ (ph' < 2 → ¬ isAr tok) ∧ tok ≠ 277)
def CTest (G : m_G) (T : Nat → Int) (L t b q n : Nat) : Prop := CTR G T L t b q n 14 YX6_readTest 1 0 true (fun kd ph bg ops _ => tsK kd ∧ ph = 0 ∧ bg ≠ 0 ∧ tr ops < 1) (fun _ ph' _ tok => ph' ≠ 0 ∧ (ph' < 2 → ¬ isAr tok) ∧ tok ≠ 277 ∧ tok ≠ 276)
theorem tVal_in {T : Nat → Int} {L e : Nat} (he : e ≤ L) (hf : tLf T L e = -1) (ht : tTk T L e = 283) (hT : ∀ i, i < L → 0 ≤ T i ∧ T i ≤ 255) : 0 ≤ tVal T L e ∧ tVal T L e ≤ 9999 := by
  by_cases h : L ≤ tAt T L e
  · rw [tk_end h] at ht; omega
  have hL : tAt T L e < L := by omega
  by_cases hl : isLt (T (tAt T L e)) = true
  · have t := tk_wd hL hl
    have i := tokV_in (nm27 (tNm T L e) 5)
    omega
  · by_cases hd : isDg (T (tAt T L e)) = true
    · have tl := tLf_nu hL (bool_f hl) hd
      rw [hf] at tl
      have h4 : nEn T L (tAt T L e) - tAt T L e ≤ 4 := by
        split at tl
        · omega
        · split at tl
          · omega
          · omega
      have sp := sk1_spec (fun k => isDg (T k)) (L := L) (k := tAt T L e) (by omega)
      have v := nvs_in (T := T) (a := tAt T L e) (nEn T L (tAt T L e) - tAt T L e) h4 (fun j h1 h2 => sp.2.2.1 j h1 (by have : nEn T L (tAt T L e) = sk1 (fun k => isDg (T k)) L (tAt T L e) := rfl; omega))
      have : ∀ n, n ≤ 4 → (10 : Int) ^ n ≤ 10000 := by decide
      have := this _ h4
      unfold tVal
      omega
    · have t := tk_sg hL (bool_f hl) (bool_f hd)
      have := hT _ hL
      omega
theorem s_may {G : m_G} {d q : Nat} {μ : m_M} (hq : q < 4) (h2 : μ 2 0 2 = 261 + (q : Int)) {x : Int} {K : Int → m_M → Prop} (k : K (if p_fw q x = true then 1 else 0) μ) : c_i G (d + 1) YX6_mayStand [vR 2 0, vI x] μ K := by
  refine EX6_mayStand ?_
  rw [h2]
  by_cases hx : x = 257 ∨ x = 258 ∨ x = 260 ∨ x = 268 ∨ x = 269 ∨ x = 270 ∨ x = 271 ∨ x = 272 ∨ x = 273 ∨ x = 274
  · have hq' : q = 0 ∨ q = 1 ∨ q = 2 ∨ q = 3 := by omega
    rcases hx with e | e | e | e | e | e | e | e | e | e <;> subst e <;> rcases hq' with e | e | e | e <;> subst e <;> simp [p_fw] at k ⊢ <;> exact k
  · have hn : ¬ p_fw q x = true := fun z => by
      simp only [p_fw, Bool.or_eq_true, Bool.and_eq_true, beq_iff_eq, decide_eq_true_eq] at z
      omega
    rw [if_neg hn] at k
    exact ⟨fun z => by omega, fun z => by omega, fun z => by omega, fun z => by omega, fun z => by omega, fun z => by omega, fun z => by omega, fun z => by omega, fun z => by omega, fun z => by omega, fun _ => k⟩
theorem d7 {δ : List Int} (h : ∀ x ∈ δ, (7 : Int) ≤ rk x ∧ x ≠ 0) : δ = [] := by
  cases δ with
  | nil => rfl
  | cons x r => have := h x (List.mem_cons_self ..); have := (rk_in x).2; omega
section PA
variable {G : m_G} {T : Nat → Int} {L t b q n : Nat}
theorem c_choice {d e o : Nat} {kd ph bg : Int} {pr : Option Int} {ops : List Int} {fs : List Fr} {CC : List Int} {μ : m_M} {K : m_M → Prop} (hq : q < 4) (HS : CSum G T L t b q n) (HT : CTest G T L t b q n) (hn : L - e < n + 1) (h : CS T L t q μ e o CC) (ho : o ≤ 7) (hf : fs.length ≤ o) (hm : (ops ++ opA fs).length ≤ 7 * o + 5) (hc : CC.length + (ops ++ opA fs).length ≤ e) (hk : 0 ≤ kd ∧ kd ≤ 6) {a : Int} (ha : a = 275 ∨ a = 280 ∨ a = 281) (ht : tTk T L e = a)
    (ks : SUC G T L t b q μ e o kd ph bg pr ops fs CC 7 5 false (fun ph ph' bg' _ => ph' = ph ∧ bg' = 0) K) (kf : FAI G T L t b q μ (e, o, 0, ((kd, ph, bg, pr), ops) :: fs, CC) K) : c_v G (d + 10 * (7 - o) + 7) YX6_readChoice [vR 2 0, vI a] μ K := by
  have hb : bdO o fs ops q := ⟨hq, ho, by omega, by omega⟩
  have hlf := h.2.2.2.1
  have rc := rdC (G := G) (b := b) (kd := kd) (ph := ph) (bg := bg) (pr := pr) (CL := CC) hb hlf (by omega)
  have he := h.2.1
  have g2 := tEn_in (T := T) he
  have hL16 : L ≤ 1600 := h.1.1.2.2.2
  have nend : ∀ e, e ≤ L → tTk T L e ≠ 284 → e < tEn T L e ∧ tEn T L e ≤ L := fun e he z => by
    have g1 := tAt_in (T := T) he
    have g2 := tEn_in (T := T) he
    by_cases y : L ≤ tAt T L e
    · exact absurd (tk_end y) z
    · have := g2.2.2 (by omega); omega
  have ne := nend e he (by omega)
  have ht9 := h.1.2.1
  refine EX6_readChoice (fun X C R => ?_)
  refine s_next (d := d + 10 * (7 - o) + 3) h (by omega) (fun hf1 μ1 f1 g1 => f_open g1 (by decide) ⟨z0, fun _ => kf μ1 1 _ f1 g1 (rc.1 hf1)⟩) (fun μ1 f1 h1 => ?_)
  have hlf1 := h1.2.2.2.1
  have rc1 := rc.2 hlf1
  by_cases t40 : tTk T L (tEn T L e) = 40
  · have ne2 := nend _ ne.2 (by omega)
    have rc2 := rc1.2 t40
    refine s_open (d := d + 10 * (7 - o) + 2) h1 ho (by decide) t40 (fun h7 μ2 f2 g2 => ⟨z0, fun _ => kf μ2 5 _ (f1.tr f2) g2 (rc2.2 h7)⟩) (fun h7 hf2 μ2 f2 g2 => ⟨fun _ => ?_, z1⟩) (fun h7 μ2 f2 h2 => ⟨fun _ => ?_, z1⟩)
    · -- a fault behind the bracket
      have rf : RdF G T L b q (e, o, 0, ((kd, ph, bg, pr), ops) :: fs, CC) 1 (tLf T L (tEn T L (tEn T L e))) := (rc2.1 h7).trF (rdL0 ⟨hq, by omega, by show fs.length + 1 ≤ 15; omega, by show ([] ++ (ops ++ opA fs)).length ≤ 300; rw [List.nil_append]; omega⟩ hf2)
      have at34 : ∀ μ3, ofC t μ μ3 → CF t 1 (tLf T L (tEn T L (tEn T L e))) μ3 → mW G X YX6_readChoice μ3 34 [some (vR 2 0), some (vI a)] [] := fun μ3 f3 g3 => VX6_readChoice_34 C R (f_sum (d := d + 10 * (7 - o) + 1) g3 (fun μ4 f4 g4 => f_expect (d := d + 10 * (7 - o) + 4) g4 (by decide) (f_sum (d := d + 10 * (7 - o) + 1) g4 (fun μ5 f5 g5 => f_close (d := d + 10 * (7 - o) + 3) g5 (by decide) (fun μ6 f6 g6 => ⟨t, g6.2.1.1, cls9 ht9, f_add (d := d + 10 * (7 - o) + 5) g6 (fun μ7 f7 g7 => kf μ7 1 _ (f3.tr (f4.tr (f5.tr (f6.tr f7)))) g7 rf)⟩)))))
      exact ⟨fun _ => at34 μ2 (f1.tr f2) g2, fun _ => by
        by_cases h77 : o = 7
        · omega
        · rw [show d + 10 * (7 - o) + 6 = (d + 10 * (7 - o) - 10 + 7) + 9 by omega]
          refine f_test g2 (fun μ3 f3 g3 => ?_)
          exact f_expect (d := d + 10 * (7 - o) - 10 + 7 + 7) g3 (by decide) (at34 μ3 ((f1.tr f2).tr f3) g3)⟩
    · -- the sums
      have e3 : tEn T L (tEn T L e) = tEn T L (tEn T L e) := rfl
      have base := rc2.1 h7
      have at34 : ∀ (μ3 : m_M) (e3 : Nat) (bg3 : Int) (E1 : List Int) (pre : List Bool), pre.length ≤ 1 → e < e3 → ofC t μ μ3 → CS T L t q μ3 e3 (o + 1) (CC ++ E1) → Rd G T L b q (e, o, 0, ((kd, ph, bg, pr), ops) :: fs, CC) (e3, o + 1, 0, ((3, 0, bg3, some (prOf a)), []) :: ((kd, ph, 0, pr), ops) :: fs, CC ++ E1) → (∀ ts : List Bool, ts.length ≤ 7 * o + 5 → tcs q E1 ts = some (pre ++ ts)) → (∀ ts : List Bool, t1 q a (false :: false :: (pre ++ ts)) = some (false :: ts)) → (CC ++ E1).length + (ops ++ opA fs).length ≤ e3 → mW G X YX6_readChoice μ3 34 [some (vR 2 0), some (vI a)] [] := fun μ3 e3 bg3 E1 pre hpre he3 f3 h3 r3 ty3 tyA cnt3 => by
        have fsl : (((kd, ph, 0, pr), ops) :: fs : List Fr).length ≤ o + 1 := by show fs.length + 1 ≤ o + 1; omega
        have opl : ([] ++ opA (((kd, ph, 0, pr), ops) :: fs)).length = (ops ++ opA fs).length := by rw [List.nil_append]; rfl
        have d6 : d + 10 * (7 - o) + 6 = (d + 6) + 10 * (7 - (o + 1)) + 10 := by omega
        refine VX6_readChoice_34 C R ?_
        rw [d6]
        refine HS (d + 6) e3 (o + 1) 3 0 bg3 (some (prOf a)) [] (((kd, ph, 0, pr), ops) :: fs) (CC ++ E1) μ3 _ (by omega) h3 (by omega) fsl (by rw [opl]; omega) (by rw [opl]; exact cnt3) (by decide) ⟨fun z => by have := z.1; omega, by decide, by decide⟩ ?_ ?_
        · intro μ4 e4 ph4 bg4 δ4 E4 CL4 f4 h4 lt4 r4 eq4 al4 ty4 cnt4 ps4
          rw [List.append_nil] at r4
          have ph0 : ph4 = 0 := ps4.1.1
          subst ph0
          have hgo : nGo 3 0 (tTk T L e4) := ⟨fun z => by have : (3 : Int) = 1 ∨ (3 : Int) = 5 ∨ (3 : Int) = 6 := z; omega, fun _ => ps4.2⟩
          have gf := gF (G := G) (b := b) (q := q) (o := o + 1) (bg := bg4) (pr := some (prOf a)) (fs := ((kd, ph, 0, pr), ops) :: fs) (CL := CL4) (Or.inl rfl) h4.2.2.2.1 hgo (fun x hx => (al4 x hx).2)
          rw [opl] at cnt4
          rw [← d6]
          refine s_expect (d := d + 10 * (7 - o) + 2) h4 (by decide) (fun tx μ5 f5 g5 => ?_) (fun tx hf5 μ5 f5 g5 => ?_) (fun tx μ5 f5 h5 => ?_)
          · refine f_sum (d := d + 10 * (7 - o) + 1) g5 (fun μ6 f6 g6 => f_close (d := d + 10 * (7 - o) + 3) g6 (by decide) (fun μ7 f7 g7 => ⟨t, g7.2.1.1, cls9 ht9, f_add (d := d + 10 * (7 - o) + 5) g7 (fun μ8 f8 g8 => kf μ8 1 _ (f3.tr (f4.tr (f5.tr (f6.tr (f7.tr f8))))) g8 ((r3.tr r4).trF (gf.2 tx)))⟩))
          · have r5 := (r3.tr r4).tr (gf.1 tx)
            refine f_sum (d := d + 10 * (7 - o) + 1) g5 (fun μ6 f6 g6 => f_close (d := d + 10 * (7 - o) + 3) g6 (by decide) (fun μ7 f7 g7 => ⟨t, g7.2.1.1, cls9 ht9, f_add (d := d + 10 * (7 - o) + 5) g7 (fun μ8 f8 g8 => kf μ8 1 _ (f3.tr (f4.tr (f5.tr (f6.tr (f7.tr f8))))) g8 (r5.trF (rdL0 ⟨hq, by omega, by show fs.length + 1 ≤ 15; omega, by rw [opl]; omega⟩ hf5)))⟩))
          · have r5 := (r3.tr r4).tr (gf.1 tx)
            rw [eq4] at r5
            have ne4 := nend e4 h4.2.1 (by omega)
            rw [d6]
            refine HS (d + 6) (tEn T L e4) (o + 1) 4 0 bg4 (some (prOf a)) [] (((kd, ph, 0, pr), ops) :: fs) (CC ++ E1 ++ E4) μ5 _ (by omega) h5 (by omega) fsl (by rw [opl]; omega) (by rw [opl]; omega) (by decide) ⟨fun z => by have := z.1; omega, by decide, by decide⟩ ?_ ?_
            · intro μ6 e6 ph6 bg6 δ6 E6 CL6 f6 h6 lt6 r6 eq6 al6 ty6 cnt6 ps6
              rw [List.append_nil] at r6
              have ph0 : ph6 = 0 := ps6.1.1
              subst ph0
              have hgo6 : nGo 4 0 (tTk T L e6) := ⟨fun z => by have : (4 : Int) = 1 ∨ (4 : Int) = 5 ∨ (4 : Int) = 6 := z; omega, fun _ => ps6.2⟩
              have pne : prOf a ≠ 0 := by unfold prOf; split <;> (try split) <;> decide
              have ptk : tk (prOf a) 0 = a := by rcases ha with y | y | y <;> subst y <;> rfl
              have gg := gG (G := G) (b := b) (q := q) (o := o) (p := prOf a) (bg := bg6) (pr := some (prOf a)) (kd2 := kd) (ph2 := ph) (bg2 := 0) (pr2 := pr) (ops2 := ops) (fs := fs) (CL := CL6) (Or.inr (Or.inl rfl)) h6.2.2.2.1 hgo6 (fun x hx => (al6 x hx).2) (fun _ => ⟨rfl, pne⟩)
              rw [opl] at cnt6
              have r56 := r5.tr r6
              rw [← d6]
              refine s_close (d := d + 10 * (7 - o) + 1) h6 (by omega) (by decide) (fun tx μ7 f7 g7 => ?_) (fun tx hf7 μ7 f7 g7 => ?_) (fun tx μ7 f7 h7' => ?_)
              · exact ⟨t, g7.2.1.1, cls9 ht9, f_add (d := d + 10 * (7 - o) + 5) g7 (fun μ8 f8 g8 => kf μ8 1 _ (f3.tr (f4.tr (f5.tr (f6.tr (f7.tr f8))))) g8 (r56.trF (gg.2 tx)))⟩
              · exact ⟨t, g7.2.1.1, cls9 ht9, f_add (d := d + 10 * (7 - o) + 5) g7 (fun μ8 f8 g8 => kf μ8 1 _ (f3.tr (f4.tr (f5.tr (f6.tr (f7.tr f8))))) g8 ((r56.tr (gg.1 tx)).trF (rdL1 hk hf7)))⟩
              · have ne6 := nend e6 h6.2.1 (by omega)
                have r7 := r56.tr (gg.1 tx)
                rw [if_neg (by decide), if_pos rfl, eq6, ptk] at r7
                have el : CC ++ E1 ++ E4 ++ E6 ++ [a] = CC ++ (E1 ++ E4 ++ E6 ++ [a]) := by simp only [List.append_assoc]
                refine ⟨t, h7'.1.2.2.1.1, cls9 ht9, s_add (d := d + 10 * (7 - o) + 5) h7' (by omega) (fun μ8 f8 h8 => ?_)⟩
                rw [el] at r7 h8
                refine ks μ8 (tEn T L e6) ph 0 [] (E1 ++ E4 ++ E6 ++ [a]) _ (f3.tr (f4.tr (f5.tr (f6.tr (f7.tr f8))))) h8 (by omega) r7 (by rw [show tks [] = [] from rfl, List.append_nil]) (fun x hx => by cases hx) ?_ ?_ ⟨rfl, rfl⟩
                · intro ts hts
                  rw [tcs_app _ _ ts (false :: false :: (pre ++ ts)), tcs_one (tyA ts)]
                  · simp only [List.length_cons]; omega
                  · rw [tcs_app _ _ ts (false :: (pre ++ ts)), ty6]
                    · simp only [List.length_cons, List.length_append]; omega
                    · rw [tcs_app _ _ ts (pre ++ ts) (ty3 ts hts), ty4]
                      simp only [List.length_append]; omega
                · rw [← el, List.length_append, List.length_singleton]; omega
            · intro μ6 kk p f6 g6 rf
              rw [← d6]
              exact f_close (d := d + 10 * (7 - o) + 3) g6 (by decide) (fun μ7 f7 g7 => ⟨t, g7.2.1.1, cls9 ht9, f_add (d := d + 10 * (7 - o) + 5) g7 (fun μ8 f8 g8 => kf μ8 kk p (f3.tr (f4.tr (f5.tr (f6.tr (f7.tr f8))))) g8 (r5.trF rf))⟩)
        · intro μ4 kk p f4 g4 rf
          rw [← d6]
          exact f_expect (d := d + 10 * (7 - o) + 4) g4 (by decide) (f_sum (d := d + 10 * (7 - o) + 1) g4 (fun μ6 f6 g6 => f_close (d := d + 10 * (7 - o) + 3) g6 (by decide) (fun μ7 f7 g7 => ⟨t, g7.2.1.1, cls9 ht9, f_add (d := d + 10 * (7 - o) + 5) g7 (fun μ8 f8 g8 => kf μ8 kk p (f3.tr (f4.tr (f6.tr (f7.tr f8)))) g8 (r3.trF rf))⟩)))
      refine ⟨fun a5 => ?_, fun a5 => ?_⟩
      · refine at34 μ2 (tEn T L (tEn T L e)) 1 [] [] (by decide) (by omega) (f1.tr f2) (by rw [List.append_nil]; exact h2) ?_ (fun ts _ => rfl) (fun ts => ?_) (by rw [List.append_nil]; omega)
        · rw [List.append_nil]
          rw [if_neg (by omega), ht] at base
          exact base
        · rcases ha with y | y | y
          · exact absurd y a5
          · subst y; rfl
          · subst y; rfl
      · rw [if_pos (by omega), ht] at base
        have fsl : (((kd, ph, 0, pr), ops) :: fs : List Fr).length ≤ o + 1 := by show fs.length + 1 ≤ o + 1; omega
        have opl : ([] ++ opA (((kd, ph, 0, pr), ops) :: fs)).length = (ops ++ opA fs).length := by rw [List.nil_append]; rfl
        have d6 : d + 10 * (7 - o) + 6 = (d + 2) + 10 * (7 - (o + 1)) + 14 := by omega
        rw [d6]
        refine HT (d + 2) _ (o + 1) 6 0 1 (some (prOf a)) [] (((kd, ph, 0, pr), ops) :: fs) CC μ2 _ (by omega) h2 (by omega) fsl (by rw [opl]; omega) (by rw [opl]; omega) (by decide) ⟨Or.inr (Or.inr rfl), rfl, by decide, by decide⟩ ?_ ?_
        · intro μ4 e4 ph4 bg4 δ4 E4 CL4 f4 h4 lt4 r4 eq4 al4 ty4 cnt4 ps4
          rw [List.append_nil] at r4
          have hgo : nGo 6 ph4 (tTk T L e4) := ⟨fun _ => ⟨ps4.1, ps4.2.2.2, ps4.2.2.1⟩, ps4.2.1⟩
          have gf := gF (G := G) (b := b) (q := q) (o := o + 1) (bg := bg4) (pr := some (prOf a)) (fs := ((kd, ph, 0, pr), ops) :: fs) (CL := CL4) (Or.inr rfl) h4.2.2.2.1 hgo (fun x hx => (al4 x hx).2)
          rw [opl] at cnt4
          rw [← d6]
          have dead : ∀ (μ5 : m_M) (k5 p5 : Int), ofC t μ μ5 → CF t k5 p5 μ5 → RdF G T L b q (e, o, 0, ((kd, ph, bg, pr), ops) :: fs, CC) k5 p5 → mW G X YX6_readChoice μ5 34 [some (vR 2 0), some (vI a)] [] := fun μ5 k5 p5 f5 g5 rf => VX6_readChoice_34 C R (f_sum (d := d + 10 * (7 - o) + 1) g5 (fun μ6 f6 g6 => f_expect (d := d + 10 * (7 - o) + 4) g6 (by decide) (f_sum (d := d + 10 * (7 - o) + 1) g6 (fun μ7 f7 g7 => f_close (d := d + 10 * (7 - o) + 3) g7 (by decide) (fun μ8 f8 g8 => ⟨t, g8.2.1.1, cls9 ht9, f_add (d := d + 10 * (7 - o) + 5) g8 (fun μ9 f9 g9 => kf μ9 k5 p5 (f5.tr (f6.tr (f7.tr (f8.tr f9)))) g9 rf)⟩)))))
          refine s_expect (d := d + 10 * (7 - o) + 2) h4 (by decide) (fun tx μ5 f5 g5 => ?_) (fun tx hf5 μ5 f5 g5 => ?_) (fun tx μ5 f5 h5 => ?_)
          · exact dead μ5 _ _ ((f1.tr f2).tr (f4.tr f5)) g5 ((base.tr r4).trF (gf.2 tx))
          · exact dead μ5 _ _ ((f1.tr f2).tr (f4.tr f5)) g5 (((base.tr r4).tr (gf.1 tx)).trF (rdL0 ⟨hq, by omega, by show fs.length + 1 ≤ 15; omega, by rw [opl]; omega⟩ hf5))
          · have ne4 := nend e4 h4.2.1 (by omega)
            have r5 := (base.tr r4).tr (gf.1 tx)
            rw [eq4, if_neg (by decide)] at r5
            refine at34 μ5 _ bg4 E4 [true] (by decide) (by omega) ((f1.tr f2).tr (f4.tr f5)) h5 r5 (fun ts hts => ty4 ts (by omega)) (fun ts => ?_) (by omega)
            subst a5
            rfl
        · intro μ4 kk p f4 g4 rf
          rw [← d6]
          exact f_expect (d := d + 10 * (7 - o) + 4) g4 (by decide) (VX6_readChoice_34 C R (f_sum (d := d + 10 * (7 - o) + 1) g4 (fun μ6 f6 g6 => f_expect (d := d + 10 * (7 - o) + 4) g6 (by decide) (f_sum (d := d + 10 * (7 - o) + 1) g6 (fun μ7 f7 g7 => f_close (d := d + 10 * (7 - o) + 3) g7 (by decide) (fun μ8 f8 g8 => ⟨t, g8.2.1.1, cls9 ht9, f_add (d := d + 10 * (7 - o) + 5) g8 (fun μ9 f9 g9 => kf μ9 kk p ((f1.tr f2).tr (f4.tr (f6.tr (f7.tr (f8.tr f9))))) g9 (base.trF rf))⟩))))))
  · exact s_openX (d := d + 10 * (7 - o) + 2) h1 t40 (fun μ2 f2 g2 => ⟨z0, fun _ => kf μ2 1 _ (f1.tr f2) g2 (rc1.1 t40)⟩)
end PA
