/-! ===== both read what comes next ===== -/
def CB (T : Nat → Int) (L : Nat) (μ : m_M) : Prop := (μ 3 0 1 = 101 ∧ μ 3 0 2 = (L : Int)) ∧ (∀ i, i < L → (0 ≤ T i ∧ T i ≤ 255) ∧ μ 1 1 i = sg (T i)) ∧ R_own μ ∧ L ≤ 1600
def Lok (T : Nat → Int) (L e : Nat) (tk : Int) : Prop := (e = 0 ∧ tk = 284) ∨ (0 < e ∧ (tk = 283 ↔ isDg (T (e - 1)) = true) ∧ (256 ≤ tk ∧ tk ≤ 282 ↔ isLt (T (e - 1)) = true) ∧ (isLt (T (e - 1)) = true → e < L → isLt (T e) = false) ∧ (isDg (T (e - 1)) = true → e < L → isDg (T e) = false))
def TK (T : Nat → Int) (L : Nat) (μ : m_M) (e : Nat) : Prop := tLf T L e = -1 ∧ μ 3 0 5 = (tAt T L e : Int) ∧ μ 3 0 4 = tTk T L e ∧ μ 3 0 3 = ((if L ≤ tAt T L e then e else tEn T L e : Nat) : Int) ∧ (tTk T L e = 283 → μ 3 0 6 = tVal T L e) ∧ (256 ≤ tTk T L e ∧ tTk T L e ≤ 282 → μ 3 0 6 = (nm27 (tNm T L e) 5 : Int)) ∧ μ 3 0 8 = -1
/-- only the reader may have changed -/
def of3 (μ μ1 : m_M) : Prop := ∀ x y z, ¬ (x = 3 ∧ y = 0 ∧ 3 ≤ z) → μ1 x y z = μ x y z
theorem of3.rf (μ : m_M) : of3 μ μ := fun _ _ _ _ => rfl
theorem of3.tr {μ μ1 μ2 : m_M} (h : of3 μ μ1) (h2 : of3 μ1 μ2) : of3 μ μ2 := fun x y z a => (h2 x y z a).trans (h x y z a)
theorem of3.up {μ : m_M} {z : Nat} {v : Int} (hz : 3 ≤ z) : of3 μ (m_up μ 3 0 z v) := fun x y z' a => m_up_ne _ _ (fun q => a ⟨q.1, q.2.1, by omega⟩)
theorem CB.of {T : Nat → Int} {L : Nat} {μ μ1 : m_M} (h : CB T L μ) (f : of3 μ μ1) : CB T L μ1 := by
  obtain ⟨⟨a, b⟩, c, d, e⟩ := h
  exact ⟨⟨by rw [f 3 0 1 (by omega)]; exact a, by rw [f 3 0 2 (by omega)]; exact b⟩, fun i hi => by rw [f 1 1 i (by omega)]; exact c i hi, fun i hi => by rw [f 3 1 i (by omega)]; exact d i hi, e⟩
section TKC
variable {T : Nat → Int} {L e : Nat}
theorem tk_end (h : L ≤ tAt T L e) : tTk T L e = 284 := by unfold tTk; rw [if_pos h]
theorem tk_wd (h : tAt T L e < L) (hl : isLt (T (tAt T L e)) = true) : tTk T L e = tokV (nm27 (tNm T L e) 5) := by unfold tTk; rw [if_neg (by omega), if_pos hl]
theorem tk_nu (h : tAt T L e < L) (hl : isLt (T (tAt T L e)) = false) (hd : isDg (T (tAt T L e)) = true) : tTk T L e = 283 := by unfold tTk; rw [if_neg (by omega), if_neg (by rw [hl]; decide), if_pos hd]
theorem tk_sg (h : tAt T L e < L) (hl : isLt (T (tAt T L e)) = false) (hd : isDg (T (tAt T L e)) = false) : tTk T L e = T (tAt T L e) := by unfold tTk; rw [if_neg (by omega), if_neg (by rw [hl]; decide), if_neg (by rw [hd]; decide)]
theorem ldx {x : Int} (h : isLt x = true) : isDg x = false := by
  unfold isLt at h
  have := of_decide_eq_true h
  unfold isDg
  exact decide_eq_false (by omega)
theorem dlx {x : Int} (h : isDg x = true) : isLt x = false := by
  unfold isDg at h
  have := of_decide_eq_true h
  unfold isLt
  exact decide_eq_false (by omega)
theorem bkx {x : Int} (h : isBk x = true) : isLt x = false ∧ isDg x = false := by
  unfold isBk at h
  have := of_decide_eq_true h
  unfold isLt isDg
  exact ⟨decide_eq_false (by omega), decide_eq_false (by omega)⟩
theorem bool_f {b : Bool} (h : ¬ b = true) : b = false := by revert h; cases b <;> simp
theorem en_wd (h : tAt T L e < L) (hl : isLt (T (tAt T L e)) = true) : tEn T L e = wEn T L (tAt T L e) ∧ tAt T L e < wEn T L (tAt T L e) := by
  have h2 : wEn T L (tAt T L e) = wEn T L (tAt T L e + 1) := sk1_step h hl
  have := (sk1_spec (fun k => isLt (T k)) (L := L) (k := tAt T L e + 1) (by omega)).1
  refine ⟨by unfold tEn; rw [if_neg (by omega), if_pos hl], ?_⟩
  rw [h2]; unfold wEn; omega
theorem en_nu (h : tAt T L e < L) (hl : isLt (T (tAt T L e)) = false) (hd : isDg (T (tAt T L e)) = true) : tEn T L e = nEn T L (tAt T L e) ∧ tAt T L e < nEn T L (tAt T L e) := by
  have h2 : nEn T L (tAt T L e) = nEn T L (tAt T L e + 1) := sk1_step h hd
  have := (sk1_spec (fun k => isDg (T k)) (L := L) (k := tAt T L e + 1) (by omega)).1
  refine ⟨by unfold tEn; rw [if_neg (by omega), if_neg (by rw [hl]; decide), if_pos hd], ?_⟩
  rw [h2]; unfold nEn; omega
theorem en_sg (h : tAt T L e < L) (hl : isLt (T (tAt T L e)) = false) (hd : isDg (T (tAt T L e)) = false) : tEn T L e = tAt T L e + 1 := by unfold tEn; rw [if_neg (by omega), if_neg (by rw [hl]; decide), if_neg (by rw [hd]; decide)]
theorem Lok.next (he : e ≤ L) (hT : ∀ i, i < L → 0 ≤ T i ∧ T i ≤ 255) (h : tAt T L e < L) : Lok T L (tEn T L e) (tTk T L e) := by
  right
  by_cases hl : isLt (T (tAt T L e)) = true
  · obtain ⟨e1, e2⟩ := en_wd h hl
    have hw := sk1_spec (fun k => isLt (T k)) (L := L) (k := tAt T L e) (by omega)
    have hz : isLt (T (tEn T L e - 1)) = true := hw.2.2.1 _ (by omega) (by rw [e1]; unfold wEn at e2 ⊢; omega)
    have tv := tokV_in (nm27 (tNm T L e) 5)
    rw [tk_wd h hl]
    refine ⟨by omega, ⟨fun z => by omega, fun z => by rw [ldx hz] at z; exact absurd z (by decide)⟩, ⟨fun _ => hz, fun _ => tv⟩, fun _ hlt => ?_, fun z => by rw [ldx hz] at z; exact absurd z (by decide)⟩
    rw [e1] at hlt ⊢
    exact hw.2.2.2 hlt
  · have hl := bool_f hl
    by_cases hd : isDg (T (tAt T L e)) = true
    · obtain ⟨e1, e2⟩ := en_nu h hl hd
      have hw := sk1_spec (fun k => isDg (T k)) (L := L) (k := tAt T L e) (by omega)
      have hz : isDg (T (tEn T L e - 1)) = true := hw.2.2.1 _ (by omega) (by rw [e1]; unfold nEn at e2 ⊢; omega)
      rw [tk_nu h hl hd]
      refine ⟨by omega, ⟨fun _ => hz, fun _ => rfl⟩, ⟨fun z => by omega, fun z => by rw [dlx hz] at z; exact absurd z (by decide)⟩, fun z => by rw [dlx hz] at z; exact absurd z (by decide), fun _ hlt => ?_⟩
      rw [e1] at hlt ⊢
      exact hw.2.2.2 hlt
    · have hd := bool_f hd
      have hb := hT _ h
      rw [en_sg h hl hd, tk_sg h hl hd, Nat.add_sub_cancel]
      exact ⟨by omega, ⟨fun z => by omega, fun z => by rw [hd] at z; exact absurd z (by decide)⟩, ⟨fun z => by omega, fun z => by rw [hl] at z; exact absurd z (by decide)⟩, fun z => by rw [hl] at z; exact absurd z (by decide), fun z => by rw [hd] at z; exact absurd z (by decide)⟩
/-- whether a blank is wanting, as the class has it -/
theorem pvA_wd (he : e ≤ L) {tk : Int} (hk : Lok T L e tk) (h : tAt T L e < L) (hl : isLt (T (tAt T L e)) = true) : pvA T (tAt T L e) = true ↔ tAt T L e = e ∧ tk = 283 := by
  have ha := sk1_spec (fun k => isBk (T k)) (L := L) (k := e) he
  unfold pvA
  by_cases y : tAt T L e = e
  · rw [y] at hl ⊢
    rcases hk with ⟨z1, z2⟩ | ⟨z0, z1, z2, z3, z4⟩
    · subst z1; simp; omega
    · have d0 : decide (0 < e) = true := by simp; omega
      rw [d0, Bool.true_and]
      have nl : isLt (T (e - 1)) = false := bool_f (fun w => by have := z3 w (by omega); rw [hl] at this; exact absurd this (by decide))
      rw [nl, Bool.false_or, ← z1]
      exact ⟨fun w => ⟨rfl, w⟩, fun w => w.2⟩
  · have hb := bkx (ha.2.2.1 (tAt T L e - 1) (by have := ha.1; unfold tAt at y ⊢; omega) (by have := ha.1; unfold tAt at y ⊢; omega))
    rw [hb.1, hb.2]
    simp [y]
theorem pvA_nu (he : e ≤ L) {tk : Int} (hk : Lok T L e tk) (h : tAt T L e < L) (hd : isDg (T (tAt T L e)) = true) : pvA T (tAt T L e) = true ↔ tAt T L e = e ∧ 256 ≤ tk ∧ tk ≤ 282 := by
  have ha := sk1_spec (fun k => isBk (T k)) (L := L) (k := e) he
  unfold pvA
  by_cases y : tAt T L e = e
  · rw [y] at hd ⊢
    rcases hk with ⟨z1, z2⟩ | ⟨z0, z1, z2, z3, z4⟩
    · subst z1; simp; omega
    · have d0 : decide (0 < e) = true := by simp; omega
      rw [d0, Bool.true_and]
      have nd : isDg (T (e - 1)) = false := bool_f (fun w => by have := z4 w (by omega); rw [hd] at this; exact absurd this (by decide))
      rw [nd, Bool.or_false, ← z2]
      exact ⟨fun w => ⟨rfl, w⟩, fun w => w.2⟩
  · have hb := bkx (ha.2.2.1 (tAt T L e - 1) (by have := ha.1; unfold tAt at y ⊢; omega) (by have := ha.1; unfold tAt at y ⊢; omega))
    rw [hb.1, hb.2]
    simp [y]
end TKC
section NXC
variable {G : m_G} {T : Nat → Int} {L e : Nat}
theorem c_upc {d : Nat} {μ : m_M} (hC : CB T L μ) (he : e ≤ L) (e3 : μ 3 0 3 = (e : Int)) {K : Int → m_M → Prop} (k : K (tAt T L e : Int) μ) : c_i G (d + 2) YX7_upcoming [vR 3 0] μ K := by
  obtain ⟨⟨h1, h2⟩, hT, -, hL⟩ := hC
  refine EX7_upcoming (fun X C R x1 ex => ?_)
  rw [e3] at ex
  subst ex
  have LL : ∀ (r j : Nat), j + r = L → sk1 (fun k => isBk (T k)) L j = tAt T L e → mW G X YX7_upcoming μ 5 [some (vR 3 0), some (vI (j : Int))] [] := by
    intro r
    induction r with
    | zero =>
      intro j hj ha
      rw [sk1_stop (Or.inl (by omega))] at ha
      rw [ha]
      exact VX7_upcoming_5 C R ⟨fun _ => k, fun q => absurd (by omega) q⟩
    | succ r ih =>
      intro j hj ha
      have g := hT j (by omega)
      refine VX7_upcoming_5 C R ⟨fun q => absurd q (by omega), fun _ => ⟨h1, ⟨by omega, by omega⟩, ?_⟩⟩
      rw [Int.toNat_natCast, g.2, w32_s (by omega)]
      refine cx_bk g.1 ?_
      by_cases y : isBk (T j) = true
      · rw [if_pos y]
        refine ⟨z1, fun _ x3 e3 => ?_⟩
        subst e3
        exact ih (j + 1) (by omega) (by rw [← sk1_step (by omega) y]; exact ha)
      · rw [if_neg y]
        refine ⟨fun _ => ?_, z0⟩
        rw [sk1_stop (Or.inr (bool_f y))] at ha
        rw [ha]
        exact k
  exact LL (L - e) e (by omega) rfl
theorem c_fail {d : Nat} {μ : m_M} (h7 : μ 3 0 7 = 0) {a b : Int} {K : m_M → Prop} (k : ∀ μ1, of3 μ μ1 → μ1 3 0 7 = a → μ1 3 0 8 = b → μ1 3 0 4 = 285 → K μ1) : c_v G (d + 1) YX7_fail [vR 3 0, vI a, vI b] μ K := by
  refine EX7_fail ⟨fun q => absurd h7 q, fun _ μ2 e2 μ3 e3 μ4 e4 => k μ4 ?_ ?_ ?_ ?_⟩
  · rw [e4, e3, e2]; exact ((of3.up (by omega)).tr (of3.up (by omega))).tr (of3.up (by omega))
  · rw [e4, m_up_ne _ _ (by omega), e3, m_up_ne _ _ (by omega), e2, m_up_at]
  · rw [e4, m_up_ne _ _ (by omega), e3, m_up_at]
  · rw [e4, m_up_at]
/-- behind a fault nothing changes but the token, which stays broken -/
theorem c_fail2 {d : Nat} {μ : m_M} (h7 : μ 3 0 7 ≠ 0) (h4 : μ 3 0 4 = 285) {a b : Int} {K : m_M → Prop} (k : K μ) : c_v G (d + 1) YX7_fail [vR 3 0, vI a, vI b] μ K := by
  refine EX7_fail ⟨fun _ μ1 e1 => ?_, fun q => absurd q h7⟩
  have : μ1 = μ := by
    funext x y z
    rw [e1]
    by_cases w : x = 3 ∧ y = 0 ∧ z = 4
    · rw [w.1, w.2.1, w.2.2, m_up_at, h4]
    · rw [m_up_ne _ _ w]
  rw [this]; exact k
theorem c_next2 {d : Nat} {μ : m_M} (h7 : μ 3 0 7 ≠ 0) {K : m_M → Prop} (k : K μ) : c_v G (d + 1) YX7_next [vR 3 0] μ K := EX7_next ⟨fun q => absurd q h7, fun _ => k⟩
theorem c_tokOf {d : Nat} {μ : m_M} (ho : R_own μ) {v : Int} {K : Int → m_M → Prop} (k : K (tokV v) μ) : c_i G (d + 1) YX7_tokenOf [vR 3 0, vI v] μ K := by
  refine EX7_tokenOf (fun X C R => ?_)
  have LL : ∀ (r j : Nat), j + r = 26 → m_fst (fun k => ownL.getD k 0 == v) j r = m_fst (fun k => ownL.getD k 0 == v) 0 26 → mW G X YX7_tokenOf μ 2 [some (vR 3 0), some (vI v), some (vI (j : Int))] [] := by
    intro r
    induction r with
    | zero =>
      intro j hj e
      refine VX7_tokenOf_2 C R ⟨fun _ => ?_, fun q => absurd (by omega) q⟩
      have e0 : m_fst (fun k => ownL.getD k 0 == v) j 0 = -1 := rfl
      unfold tokV at k
      rw [← e, e0, if_pos rfl] at k
      exact k
    | succ r ih =>
      intro j hj e
      refine VX7_tokenOf_2 C R ⟨fun q => absurd q (by omega), fun _ => ⟨⟨by omega, by omega⟩, ?_⟩⟩
      rw [Int.toNat_natCast, ho j (by omega), w32_s (by omega), w32_le (by omega) (by omega)]
      have e' : (if (ownL.getD j 0 == v) = true then (j : Int) else m_fst (fun k => ownL.getD k 0 == v) (j + 1) r) = m_fst (fun k => ownL.getD k 0 == v) 0 26 := e
      refine ⟨fun q x1 e1 => ?_, fun q => ?_⟩
      · subst e1
        rw [if_neg (fun z => q (beq_iff_eq.mp z))] at e'
        exact ih (j + 1) (by omega) e'
      · rw [if_pos (beq_iff_eq.mpr q)] at e'
        unfold tokV at k
        rw [← e', if_neg (by omega)] at k
        exact k
  exact LL 26 0 (by omega) rfl
theorem c_rdW {d : Nat} {μ : m_M} (hC : CB T L μ) (h7 : μ 3 0 7 = 0) (h8 : μ 3 0 8 = -1) {a : Nat} (h5 : μ 3 0 5 = (a : Int)) (ha : a < L) {K : m_M → Prop} (kf : 6 < wEn T L a - a → ∀ μ1, of3 μ μ1 → μ1 3 0 7 = 1 → μ1 3 0 8 = ((a + 6 : Nat) : Int) → μ1 3 0 4 = 285 → K μ1) (kk : ¬ 6 < wEn T L a - a → ∀ μ1, of3 μ μ1 → μ1 3 0 7 = 0 → μ1 3 0 8 = -1 → μ1 3 0 5 = (a : Int) → μ1 3 0 3 = (wEn T L a : Int) → μ1 3 0 4 = tokV (nm27 (lts T a (wEn T L a - a)) 5) → μ1 3 0 6 = (nm27 (lts T a (wEn T L a - a)) 5 : Int) → K μ1) : c_v G (d + 2) YX7_readWord [vR 3 0, vI 0] μ K := by
  have hw := sk1_spec (fun k => isLt (T k)) (L := L) (k := a) (by omega)
  have hL := hC.2.2.2
  refine EX7_readWord (fun X C R => ⟨fun _ μ1 e1 x2 ex => ?_, fun q => absurd rfl q⟩)
  rw [e1, m_up_ne (a := 3) (b := 0) (c := 5) _ _ (by omega), h5] at ex
  subst ex
  have LL : ∀ (r n : Nat) (μ1 : m_M), a + n + r = L → a + n ≤ wEn T L a → n ≤ 6 → wEn T L (a + n) = wEn T L a → of3 μ μ1 → μ1 3 0 7 = 0 → μ1 3 0 8 = -1 → μ1 3 0 5 = (a : Int) → μ1 3 0 6 = (nm27 (lts T a n) 5 : Int) → mW G X YX7_readWord μ1 24 [some (vR 3 0), some (vI 0), some (vI ((a + n : Nat) : Int))] [] := by
    intro r
    have stop : ∀ (n : Nat) (μ1 : m_M), wEn T L a = a + n → n ≤ 6 → of3 μ μ1 → μ1 3 0 7 = 0 → μ1 3 0 8 = -1 → μ1 3 0 5 = (a : Int) → μ1 3 0 6 = (nm27 (lts T a n) 5 : Int) → ∀ μ2, μ2 = m_up μ1 3 0 3 ((a + n : Nat) : Int) → c_i G (d + 1) YX7_tokenOf [vR 3 0, vI (μ2 3 0 6)] μ2 (fun r3 μ2 => ∀ μ4 : m_M, μ4 = m_up μ2 3 0 4 r3 → K μ4) := fun n μ1 hn h6 o1 z7 z8 z5 z6 μ2 e2 => by
      have o2 : of3 μ μ2 := by rw [e2]; exact o1.tr (of3.up (by omega))
      have v6 : μ2 3 0 6 = (nm27 (lts T a n) 5 : Int) := by rw [e2, m_up_ne _ _ (by omega)]; exact z6
      rw [v6]
      refine c_tokOf (hC.of o2).2.2.1 (fun μ4 e4 => kk (by omega) μ4 ?_ ?_ ?_ ?_ ?_ ?_ ?_)
      · rw [e4]; exact o2.tr (of3.up (by omega))
      · rw [e4, m_up_ne _ _ (by omega), e2, m_up_ne _ _ (by omega)]; exact z7
      · rw [e4, m_up_ne _ _ (by omega), e2, m_up_ne _ _ (by omega)]; exact z8
      · rw [e4, m_up_ne _ _ (by omega), e2, m_up_ne _ _ (by omega)]; exact z5
      · rw [e4, m_up_ne _ _ (by omega), e2, m_up_at, hn]
      · rw [e4, m_up_at, hn, Nat.add_sub_cancel_left]
      · rw [e4, m_up_ne _ _ (by omega), hn, Nat.add_sub_cancel_left]; exact v6
    induction r with
    | zero =>
      intro n μ1 hr hn h6 hwn o1 z7 z8 z5 z6
      have e2 : wEn T L a = a + n := by rw [← hwn]; exact sk1_stop (Or.inl (by omega))
      refine VX7_readWord_24 C R ⟨fun _ μ2 em => stop n μ1 e2 h6 o1 z7 z8 z5 z6 μ2 em, fun q => absurd (by rw [(hC.of o1).1.2]; omega) q⟩
    | succ r ih =>
      intro n μ1 hr hn h6 hwn o1 z7 z8 z5 z6
      have g := hC.2.1 (a + n) (by omega)
      have c1 := hC.of o1
      refine VX7_readWord_24 C R ⟨fun q => absurd q (by rw [c1.1.2]; omega), fun _ => ⟨c1.1.1, ⟨by omega, by omega⟩, ?_⟩⟩
      rw [Int.toNat_natCast, (c1.2.1 (a + n) (by omega)).2]
      refine cx_lt g.1 ?_
      by_cases y : isLt (T (a + n)) = true
      · rw [if_pos y]
        refine ⟨z1, fun _ => ?_⟩
        rw [z5, show w32 (((a + n : Nat) : Int) - (a : Int)) = (n : Int) by rw [w32_le (by omega) (by omega)]; omega]
        have hwn1 : wEn T L (a + (n + 1)) = wEn T L a := by rw [← hwn]; exact (sk1_step (p := fun k => isLt (T k)) (L := L) (k := a + n) (by omega) y).symm
        have hw1 := (sk1_spec (fun k => isLt (T k)) (L := L) (k := a + (n + 1)) (by omega)).1
        have hge : a + (n + 1) ≤ wEn T L a := by rw [← hwn1]; exact hw1
        refine ⟨fun q => ⟨c1.1.1, ⟨by omega, by omega⟩, ⟨by omega, by omega⟩, fun μ11 e11 x12 ex => ?_⟩, fun q => c_fail z7 (fun μ2 o2 f1 f2 f3 => kf ?_ μ2 (o1.tr o2) f1 ?_ f3)⟩
        · have hn6 : n < 6 := by omega
          rw [w32_s (by omega)] at ex
          subst ex
          have lw := lw_all n hn6
          have tl : 97 ≤ T (a + n) ∧ T (a + n) ≤ 122 := of_decide_eq_true y
          have sgv : sg (T (a + n)) = T (a + n) := by unfold sg; rw [if_pos (by omega)]
          have hnm : nm27 (lts T a n) 5 < 387420489 := by
            have : ∀ (l : List Nat) (j : Nat), l.length ≤ j + 1 → (∀ x ∈ l, x ≤ 26) → nm27 l j < 27 ^ (j + 1) := by
              intro l
              induction l with
              | nil => intro j _ _; exact Nat.pow_pos (by decide)
              | cons x r ih =>
                intro j hj hx
                have hx0 := hx x List.mem_cons_self
                show x * 27 ^ j + nm27 r (j - 1) < 27 ^ (j + 1)
                have hr : nm27 r (j - 1) < 27 ^ j := by
                  by_cases j0 : j = 0
                  · subst j0
                    have : r = [] := by
                      have hj : r.length + 1 ≤ 1 := hj
                      exact List.length_eq_zero_iff.mp (by omega)
                    subst this
                    exact Nat.lt_succ_self 0
                  · have := ih (j - 1) (by have hj : r.length + 1 ≤ j + 1 := hj; omega) (fun y hy => hx y (List.mem_cons_of_mem _ hy))
                    rw [show j - 1 + 1 = j by omega] at this
                    exact this
                rw [Nat.pow_succ]
                have : x * 27 ^ j ≤ 26 * 27 ^ j := Nat.mul_le_mul_right _ hx0
                omega
            have := this (lts T a n) 5 (by rw [lts_len]; omega) (fun x hx => (lts_in n (fun j h1 h2 => hw.2.2.1 j h1 (by unfold wEn at hn; omega)) x hx).2)
            exact this
          have happ : nm27 (lts T a (n + 1)) 5 = nm27 (lts T a n) 5 + (T (a + n) - 96).toNat * 27 ^ (5 - n) := by
            show nm27 (lts T a n ++ [(T (a + n) - 96).toNat]) 5 = _
            rw [nm27_app _ _ _ (by rw [lts_len]; omega), lts_len]
          have w27 : 27 ^ (5 - n) = W27.getD n 1 := by
            have : ∀ n, n < 6 → 27 ^ (5 - n) = W27.getD n 1 := by decide
            exact this n hn6
          rw [w27] at happ
          have vv : w32 ((μ1 3 0 6) + (w32 ((w32 ((w32 ((sg (T (a + n))) - 97)) + 1)) * ((m_lwL.getD (n : Int).toNat 0).toInt)))) = (nm27 (lts T a (n + 1)) 5 : Int) := by
            obtain ⟨q0, hq0⟩ : ∃ q0 : Nat, q0 = (T (a + n) - 96).toNat := ⟨_, rfl⟩
            rw [← hq0] at happ
            have hm : q0 * W27.getD n 1 ≤ 26 * W27.getD n 1 := Nat.mul_le_mul_right _ (by omega)
            have e1 : T (a + n) - 97 + 1 = (q0 : Int) := by omega
            rw [sgv, w32_le (z := T (a + n) - 97) (by omega) (by omega), w32_le (z := T (a + n) - 97 + 1) (by omega) (by omega), e1, Int.toNat_natCast, lw.1, show (q0 : Int) * ((W27.getD n 1 : Nat) : Int) = ((q0 * W27.getD n 1 : Nat) : Int) from (Int.natCast_mul _ _).symm, z6]
            generalize q0 * W27.getD n 1 = m at hm happ ⊢
            rw [w32_le (z := (m : Int)) (by omega) (by omega), w32_le (by omega) (by omega), happ]
            omega
          rw [(c1.2.1 (a + n) (by omega)).2, vv] at e11
          have := ih (n + 1) μ11 (by omega) hge (by omega) hwn1 (by rw [e11]; exact o1.tr (of3.up (by omega))) (by rw [e11, m_up_ne _ _ (by omega)]; exact z7) (by rw [e11, m_up_ne _ _ (by omega)]; exact z8) (by rw [e11, m_up_ne _ _ (by omega)]; exact z5) (by rw [e11, m_up_at])
          exact this
        · omega
        · rw [f2, show a + n = a + 6 by omega]
      · rw [if_neg y]
        have e2 : wEn T L a = a + n := by rw [← hwn]; exact sk1_stop (Or.inr (bool_f y))
        exact ⟨fun _ μ7 e7 => stop n μ1 e2 h6 o1 z7 z8 z5 z6 μ7 e7, z0⟩
  exact LL (L - a) 0 μ1 (by omega) hw.1 (by omega) rfl (by rw [e1]; exact of3.up (by omega)) (by rw [e1, m_up_ne _ _ (by omega)]; exact h7) (by rw [e1, m_up_ne _ _ (by omega)]; exact h8) (by rw [e1, m_up_ne _ _ (by omega)]; exact h5) (by rw [e1, m_up_at]; rfl)
end NXC
