/-! ===== next, ahead ===== -/
theorem nvs_in {T : Nat → Int} {a : Nat} : ∀ n, n ≤ 4 → (∀ j, a ≤ j → j < a + n → isDg (T j) = true) → 0 ≤ nvs T a n ∧ nvs T a n < 10 ^ n := by
  intro n
  induction n with
  | zero => intro _ _; unfold nvs; omega
  | succ n ih =>
    intro hn h
    have := ih (by omega) (fun j h1 h2 => h j h1 (by omega))
    have hd : 48 ≤ T (a + n) ∧ T (a + n) ≤ 57 := of_decide_eq_true (h (a + n) (by omega) (by omega))
    unfold nvs
    have : (10 : Int) ^ (n + 1) = 10 ^ n * 10 := Int.pow_succ 10 n
    omega
section NC
variable {G : m_G} {T : Nat → Int} {L e : Nat}
theorem c_rdN {d : Nat} {μ : m_M} (hC : CB T L μ) (h7 : μ 3 0 7 = 0) (h8 : μ 3 0 8 = -1) {a : Nat} (h5 : μ 3 0 5 = (a : Int)) (ha : a < L) {K : m_M → Prop} (kf : 4 < nEn T L a - a → ∀ μ1, of3 μ μ1 → μ1 3 0 7 = 1 → μ1 3 0 8 = ((a + 4 : Nat) : Int) → μ1 3 0 4 = 285 → K μ1) (kk : ¬ 4 < nEn T L a - a → ∀ μ1, of3 μ μ1 → μ1 3 0 7 = 0 → μ1 3 0 8 = -1 → μ1 3 0 5 = (a : Int) → μ1 3 0 3 = (nEn T L a : Int) → μ1 3 0 4 = 283 → μ1 3 0 6 = nvs T a (nEn T L a - a) → K μ1) : c_v G (d + 2) YX7_readNumber [vR 3 0, vI 0] μ K := by
  have hw := sk1_spec (fun k => isDg (T k)) (L := L) (k := a) (by omega)
  have hL := hC.2.2.2
  refine EX7_readNumber (fun X C R => ⟨fun _ μ1 e1 x2 ex => ?_, fun q => absurd rfl q⟩)
  rw [e1, m_up_ne (a := 3) (b := 0) (c := 5) _ _ (by omega), h5] at ex
  subst ex
  have LL : ∀ (r n : Nat) (μ1 : m_M), a + n + r = L → a + n ≤ nEn T L a → n ≤ 4 → nEn T L (a + n) = nEn T L a → of3 μ μ1 → μ1 3 0 7 = 0 → μ1 3 0 8 = -1 → μ1 3 0 5 = (a : Int) → μ1 3 0 6 = nvs T a n → mW G X YX7_readNumber μ1 24 [some (vR 3 0), some (vI 0), some (vI ((a + n : Nat) : Int))] [] := by
    intro r
    have stop : ∀ (n : Nat) (μ1 : m_M), nEn T L a = a + n → n ≤ 4 → of3 μ μ1 → μ1 3 0 7 = 0 → μ1 3 0 8 = -1 → μ1 3 0 5 = (a : Int) → μ1 3 0 6 = nvs T a n → ∀ μ2, μ2 = m_up μ1 3 0 3 ((a + n : Nat) : Int) → ∀ μ4, μ4 = m_up μ2 3 0 4 283 → K μ4 := fun n μ1 hn h6 o1 z7 z8 z5 z6 μ2 e2 μ4 e4 => by
      refine kk (by omega) μ4 ?_ ?_ ?_ ?_ ?_ ?_ ?_
      · rw [e4, e2]; exact (o1.tr (of3.up (by omega))).tr (of3.up (by omega))
      · rw [e4, m_up_ne _ _ (by omega), e2, m_up_ne _ _ (by omega)]; exact z7
      · rw [e4, m_up_ne _ _ (by omega), e2, m_up_ne _ _ (by omega)]; exact z8
      · rw [e4, m_up_ne _ _ (by omega), e2, m_up_ne _ _ (by omega)]; exact z5
      · rw [e4, m_up_ne _ _ (by omega), e2, m_up_at, hn]
      · rw [e4, m_up_at]
      · rw [e4, m_up_ne _ _ (by omega), hn, Nat.add_sub_cancel_left, e2, m_up_ne _ _ (by omega)]; exact z6
    induction r with
    | zero =>
      intro n μ1 hr hn h6 hwn o1 z7 z8 z5 z6
      have e2 : nEn T L a = a + n := by rw [← hwn]; exact sk1_stop (Or.inl (by omega))
      refine VX7_readNumber_24 C R ⟨fun _ μ2 em μ4 em4 => stop n μ1 e2 h6 o1 z7 z8 z5 z6 μ2 em μ4 em4, fun q => absurd (by rw [(hC.of o1).1.2]; omega) q⟩
    | succ r ih =>
      intro n μ1 hr hn h6 hwn o1 z7 z8 z5 z6
      have g := hC.2.1 (a + n) (by omega)
      have c1 := hC.of o1
      refine VX7_readNumber_24 C R ⟨fun q => absurd q (by rw [c1.1.2]; omega), fun _ => ⟨c1.1.1, ⟨by omega, by omega⟩, ?_⟩⟩
      rw [Int.toNat_natCast, (c1.2.1 (a + n) (by omega)).2]
      refine cx_dg g.1 ?_
      by_cases y : isDg (T (a + n)) = true
      · rw [if_pos y]
        refine ⟨z1, fun _ => ?_⟩
        rw [z5, show w32 (((a + n : Nat) : Int) - (a : Int)) = (n : Int) by rw [w32_le (by omega) (by omega)]; omega]
        have hwn1 : nEn T L (a + (n + 1)) = nEn T L a := by rw [← hwn]; exact (sk1_step (p := fun k => isDg (T k)) (L := L) (k := a + n) (by omega) y).symm
        have hw1 := (sk1_spec (fun k => isDg (T k)) (L := L) (k := a + (n + 1)) (by omega)).1
        have hge : a + (n + 1) ≤ nEn T L a := by rw [← hwn1]; exact hw1
        refine ⟨fun q => ⟨c1.1.1, ⟨by omega, by omega⟩, fun μ11 e11 x12 ex => ?_⟩, fun q => c_fail z7 (fun μ2 o2 f1 f2 f3 => kf ?_ μ2 (o1.tr o2) f1 ?_ f3)⟩
        · rw [w32_s (by omega)] at ex
          subst ex
          have tl : 48 ≤ T (a + n) ∧ T (a + n) ≤ 57 := of_decide_eq_true y
          have sgv : sg (T (a + n)) = T (a + n) := by unfold sg; rw [if_pos (by omega)]
          have hv := nvs_in (T := T) (a := a) n (by omega) (fun j h1 h2 => hw.2.2.1 j h1 (by unfold nEn at hn; omega))
          have h4 : (10 : Int) ^ n ≤ 10000 := by
            have : ∀ n, n ≤ 4 → (10 : Int) ^ n ≤ 10000 := by decide
            exact this n h6
          rw [(c1.2.1 (a + n) (by omega)).2, z6, sgv, w32_le (z := 10 * nvs T a n) (by omega) (by omega), w32_le (z := 10 * nvs T a n + T (a + n)) (by omega) (by omega), w32_le (by omega) (by omega), show 10 * nvs T a n + T (a + n) - 48 = nvs T a (n + 1) by show _ = 10 * nvs T a n + (T (a + n) - 48); omega] at e11
          exact ih (n + 1) μ11 (by omega) hge (by omega) hwn1 (by rw [e11]; exact o1.tr (of3.up (by omega))) (by rw [e11, m_up_ne _ _ (by omega)]; exact z7) (by rw [e11, m_up_ne _ _ (by omega)]; exact z8) (by rw [e11, m_up_ne _ _ (by omega)]; exact z5) (by rw [e11, m_up_at])
        · omega
        · rw [f2, show a + n = a + 4 by omega]
      · rw [if_neg y]
        have e2 : nEn T L a = a + n := by rw [← hwn]; exact sk1_stop (Or.inr (bool_f y))
        exact ⟨fun _ μ7 e7 μ8 e8 => stop n μ1 e2 h6 o1 z7 z8 z5 z6 μ7 e7 μ8 e8, z0⟩
  exact LL (L - a) 0 μ1 (by omega) hw.1 (by omega) rfl (by rw [e1]; exact of3.up (by omega)) (by rw [e1, m_up_ne _ _ (by omega)]; exact h7) (by rw [e1, m_up_ne _ _ (by omega)]; exact h8) (by rw [e1, m_up_ne _ _ (by omega)]; exact h5) (by rw [e1, m_up_at]; rfl)
theorem tLf_wd (h : tAt T L e < L) (hl : isLt (T (tAt T L e)) = true) : tLf T L e = if pvA T (tAt T L e) then (tAt T L e : Int) else if 6 < wEn T L (tAt T L e) - tAt T L e then ((tAt T L e + 6 : Nat) : Int) else -1 := by unfold tLf; rw [if_neg (by omega), if_pos hl]
theorem tLf_nu (h : tAt T L e < L) (hl : isLt (T (tAt T L e)) = false) (hd : isDg (T (tAt T L e)) = true) : tLf T L e = if pvA T (tAt T L e) then (tAt T L e : Int) else if 4 < nEn T L (tAt T L e) - tAt T L e then ((tAt T L e + 4 : Nat) : Int) else -1 := by unfold tLf; rw [if_neg (by omega), if_neg (by rw [hl]; decide), if_pos hd]
theorem tLf_sg (h : tAt T L e < L) (hl : isLt (T (tAt T L e)) = false) (hd : isDg (T (tAt T L e)) = false) : tLf T L e = -1 := by unfold tLf; rw [if_neg (by omega), if_neg (by rw [hl]; decide), if_neg (by rw [hd]; decide)]
theorem tLf_end (h : L ≤ tAt T L e) : tLf T L e = -1 := by unfold tLf; rw [if_pos h]
theorem c_next {d : Nat} {μ : m_M} (hC : CB T L μ) (he : e ≤ L) (h7 : μ 3 0 7 = 0) (h8 : μ 3 0 8 = -1) (h3 : μ 3 0 3 = (e : Int)) (hk : Lok T L e (μ 3 0 4)) {K : m_M → Prop} (kf : tLf T L e ≠ -1 → ∀ μ1, of3 μ μ1 → μ1 3 0 7 = 1 → μ1 3 0 8 = tLf T L e → μ1 3 0 4 = 285 → K μ1) (kk : ∀ μ1, of3 μ μ1 → μ1 3 0 7 = 0 → TK T L μ1 e → K μ1) : c_v G (d + 3) YX7_next [vR 3 0] μ K := by
  have hL := hC.2.2.2
  have ha := tAt_in (T := T) he
  refine EX7_next ⟨fun _ x1 ex1 => c_upc hC he h3 (fun μ4 e4 => ?_), fun q => absurd h7 q⟩
  have o4 : of3 μ μ4 := by rw [e4]; exact of3.up (by omega)
  have c4 := hC.of o4
  have v5 : μ4 3 0 5 = (tAt T L e : Int) := by rw [e4, m_up_at]
  have v3 : μ4 3 0 3 = (e : Int) := by rw [e4, m_up_ne _ _ (by omega)]; exact h3
  have v7 : μ4 3 0 7 = 0 := by rw [e4, m_up_ne _ _ (by omega)]; exact h7
  have v8 : μ4 3 0 8 = -1 := by rw [e4, m_up_ne _ _ (by omega)]; exact h8
  rw [v5, v3, c4.1.2]
  rw [← ex1] at hk
  have eEnd : L ≤ tAt T L e → ∀ μ14, μ14 = m_up μ4 3 0 4 284 → K μ14 := fun hz μ14 e14 => by
    refine kk μ14 (by rw [e14]; exact o4.tr (of3.up (by omega))) (by rw [e14, m_up_ne _ _ (by omega)]; exact v7) ⟨tLf_end hz, by rw [e14, m_up_ne _ _ (by omega)]; exact v5, by rw [e14, m_up_at, tk_end hz], ?_, fun z => by rw [tk_end hz] at z; omega, fun z => by rw [tk_end hz] at z; omega, by rw [e14, m_up_ne _ _ (by omega)]; exact v8⟩
    rw [e14, m_up_ne _ _ (by omega), if_pos hz]; exact v3
  by_cases hz : L ≤ tAt T L e
  · exact ⟨fun _ => ⟨fun q => absurd q (by omega), fun _ => eEnd hz⟩, fun _ => ⟨fun q => absurd q (by omega), fun _ => eEnd hz⟩⟩
  · have hz' : tAt T L e < L := by omega
    have g := hC.2.1 _ hz'
    have t4 := (c4.2.1 _ hz').2
    -- a word, a number, with or without the blank that it needs
    have word : ∀ l : Int, isLt (T (tAt T L e)) = true → (l = 0 ∨ l = 1) → (l = 1 ↔ pvA T (tAt T L e) = true) → c_v G (d + 2) YX7_readWord [vR 3 0, vI l] μ4 (fun μ26 => K μ26) := fun l hl h01 hp => by
      have hf := tLf_wd hz' hl
      rcases h01 with z | z
      · subst z
        have np : ¬ pvA T (tAt T L e) = true := fun w => absurd (hp.mpr w) (by decide)
        rw [if_neg np] at hf
        refine c_rdW c4 v7 v8 v5 hz' (fun h6 μ1 o1 f1 f2 f3 => ?_) (fun h6 μ1 o1 f1 f8 f2 f3 f4 f5 => ?_)
        · rw [if_pos h6] at hf
          exact kf (by rw [hf]; omega) μ1 (o4.tr o1) f1 (by rw [hf]; exact f2) f3
        · rw [if_neg h6] at hf
          have tv := tokV_in (nm27 (tNm T L e) 5)
          exact kk μ1 (o4.tr o1) f1 ⟨hf, f2, by rw [tk_wd hz' hl]; exact f4, by rw [if_neg hz, (en_wd hz' hl).1]; exact f3, fun w => by rw [tk_wd hz' hl] at w; omega, fun _ => f5, f8⟩
      · subst z
        have yp := hp.mp rfl
        rw [if_pos yp] at hf
        refine EX7_readWord (fun X C R => ⟨fun q => absurd q (by decide), fun _ => ?_⟩)
        rw [v5]
        exact c_fail v7 (fun μ1 o1 f1 f2 f3 => kf (by rw [hf]; omega) μ1 (o4.tr o1) f1 (by rw [hf]; exact f2) f3)
    have numb : ∀ l : Int, isDg (T (tAt T L e)) = true → (l = 0 ∨ l = 1) → (l = 1 ↔ pvA T (tAt T L e) = true) → c_v G (d + 2) YX7_readNumber [vR 3 0, vI l] μ4 (fun μ26 => K μ26) := fun l hd h01 hp => by
      have hl := dlx hd
      have hf := tLf_nu hz' hl hd
      rcases h01 with z | z
      · subst z
        have np : ¬ pvA T (tAt T L e) = true := fun w => absurd (hp.mpr w) (by decide)
        rw [if_neg np] at hf
        refine c_rdN c4 v7 v8 v5 hz' (fun h6 μ1 o1 f1 f2 f3 => ?_) (fun h6 μ1 o1 f1 f8 f2 f3 f4 f5 => ?_)
        · rw [if_pos h6] at hf
          exact kf (by rw [hf]; omega) μ1 (o4.tr o1) f1 (by rw [hf]; exact f2) f3
        · rw [if_neg h6] at hf
          exact kk μ1 (o4.tr o1) f1 ⟨hf, f2, by rw [tk_nu hz' hl hd]; exact f4, by rw [if_neg hz, (en_nu hz' hl hd).1]; exact f3, fun _ => f5, fun w => by rw [tk_nu hz' hl hd] at w; omega, f8⟩
      · subst z
        have yp := hp.mp rfl
        rw [if_pos yp] at hf
        refine EX7_readNumber (fun X C R => ⟨fun q => absurd q (by decide), fun _ => ?_⟩)
        rw [v5]
        exact c_fail v7 (fun μ1 o1 f1 f2 f3 => kf (by rw [hf]; omega) μ1 (o4.tr o1) f1 (by rw [hf]; exact f2) f3)
    have sgn : isLt (T (tAt T L e)) = false → isDg (T (tAt T L e)) = false → ∀ μ10, μ10 = m_up μ4 3 0 4 (i_and (μ4 1 1 (tAt T L e)) 255) → ∀ μ11, μ11 = m_up μ10 3 0 3 (w32 ((μ10 3 0 5) + 1)) → K μ11 := fun hl hd μ10 e10 μ11 e11 => by
      rw [t4, and_sg g.1] at e10
      rw [e10, m_up_ne (a := 3) (b := 0) (c := 5) _ _ (by omega), v5, w32_s (by omega)] at e11
      refine kk μ11 (by rw [e11]; exact (o4.tr (of3.up (by omega))).tr (of3.up (by omega))) (by rw [e11, m_up_ne _ _ (by omega), m_up_ne _ _ (by omega)]; exact v7) ⟨tLf_sg hz' hl hd, by rw [e11, m_up_ne _ _ (by omega), m_up_ne _ _ (by omega)]; exact v5, by rw [e11, m_up_ne _ _ (by omega), m_up_at, tk_sg hz' hl hd], by rw [e11, m_up_at, if_neg hz, en_sg hz' hl hd], fun w => by rw [tk_sg hz' hl hd] at w; omega, fun w => by rw [tk_sg hz' hl hd] at w; omega, by rw [e11, m_up_ne _ _ (by omega), m_up_ne _ _ (by omega)]; exact v8⟩
    rw [Int.toNat_natCast, t4]
    refine ⟨fun qe => ⟨fun _ => ⟨c4.1.1, ⟨by omega, by omega⟩, cx_lt g.1 ?_⟩, fun q => absurd (by omega) q⟩, fun qe => ⟨fun _ => ⟨c4.1.1, ⟨by omega, by omega⟩, cx_lt g.1 ?_⟩, fun q => absurd (by omega) q⟩⟩
    · rw [v5, Int.toNat_natCast, t4]
      by_cases hl : isLt (T (tAt T L e)) = true
      · rw [if_pos hl]
        exact ⟨z1, fun _ => word 0 hl (Or.inl rfl) ⟨fun w => absurd w (by decide), fun w => by have := (pvA_wd he hk hz' hl).mp w; omega⟩⟩
      · rw [if_neg hl]
        refine ⟨fun _ => ⟨c4.1.1, ⟨by omega, by omega⟩, cx_dg g.1 ?_⟩, z0⟩
        by_cases hd : isDg (T (tAt T L e)) = true
        · rw [if_pos hd]
          exact ⟨z1, fun _ => numb 0 hd (Or.inl rfl) ⟨fun w => absurd w (by decide), fun w => by have := (pvA_nu he hk hz' hd).mp w; omega⟩⟩
        · rw [if_neg hd]
          refine ⟨fun _ => ⟨c4.1.1, ⟨by omega, by omega⟩, fun μ10 e10 μ11 e11 => ?_⟩, z0⟩
          rw [v5, Int.toNat_natCast] at e10
          exact sgn (bool_f hl) (bool_f hd) μ10 e10 μ11 e11
    · rw [v5, Int.toNat_natCast, t4]
      have hae : tAt T L e = e := by omega
      by_cases hl : isLt (T (tAt T L e)) = true
      · rw [if_pos hl]
        have pw := pvA_wd he hk hz' hl
        exact ⟨z1, fun _ => ⟨fun w => word 0 hl (Or.inl rfl) ⟨fun v => absurd v (by decide), fun v => absurd (pw.mp v).2 w⟩, fun w => word 1 hl (Or.inr rfl) ⟨fun _ => pw.mpr ⟨hae, w⟩, fun _ => rfl⟩⟩⟩
      · rw [if_neg hl]
        refine ⟨fun _ => ⟨c4.1.1, ⟨by omega, by omega⟩, cx_dg g.1 ?_⟩, z0⟩
        by_cases hd : isDg (T (tAt T L e)) = true
        · rw [if_pos hd]
          have pw := pvA_nu he hk hz' hd
          refine ⟨z1, fun _ => EX9_isWord ⟨fun w => ⟨fun _ => numb 0 hd (Or.inl rfl) ⟨fun v => absurd v (by decide), fun v => by have := (pw.mp v).2; omega⟩, z0⟩, fun w => ⟨fun w2 => ⟨fun _ => numb 0 hd (Or.inl rfl) ⟨fun v => absurd v (by decide), fun v => by have := (pw.mp v).2; omega⟩, z0⟩, fun w2 => ⟨z1, fun _ => numb 1 hd (Or.inr rfl) ⟨fun _ => pw.mpr ⟨hae, by omega, by omega⟩, fun _ => rfl⟩⟩⟩⟩⟩
        · rw [if_neg hd]
          refine ⟨fun _ => ⟨c4.1.1, ⟨by omega, by omega⟩, fun μ10 e10 μ11 e11 => ?_⟩, z0⟩
          rw [v5, Int.toNat_natCast] at e10
          exact sgn (bool_f hl) (bool_f hd) μ10 e10 μ11 e11
end NC
