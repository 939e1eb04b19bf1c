/-! ===== the reference looks for the best ===== -/
theorem m_swp {μ μ2 μ3 : m_M} {a b : Nat} (e2 : μ2 = m_up μ 34 59 a (μ 34 59 b)) (e3 : μ3 = m_up μ2 34 59 b (μ 34 59 a)) : μ3 34 59 = swp (μ 34 59) a b := by
  funext q
  unfold swp
  by_cases h1 : q = b
  · subst h1; rw [if_pos rfl, e3, m_up_at]
  · rw [if_neg h1, e3, m_up_ne _ _ (by omega), e2]
    by_cases h2 : q = a
    · subst h2; rw [if_pos rfl, m_up_at]
    · rw [if_neg h2, m_up_ne _ _ (by omega)]
/-- only the row has changed -/
def of59 (μ μ1 : m_M) : Prop := ∀ x y z, ¬ (x = 34 ∧ y = 59) → μ1 x y z = μ x y z
theorem of59.rf (μ : m_M) : of59 μ μ := fun _ _ _ _ => rfl
theorem of59.tr {μ μ1 μ2 : m_M} (h : of59 μ μ1) (h2 : of59 μ1 μ2) : of59 μ μ2 := fun x y z a => (h2 x y z a).trans (h x y z a)
theorem of59.S {μ μ1 : m_M} (h : of59 μ μ1) : ofS μ μ1 := fun x y z a => h x y z (fun q => a (by unfold scr; omega))
section NX
variable {G : m_G} {B : Nat → Nat → Int} {kn rm : Nat}
theorem mo_chg {d : Nat} {μ : m_M} {a b : Nat} (ha : a < 7) (hb : b < 7) {K : m_M → Prop} (k : ∀ μ1, of59 μ μ1 → μ1 34 59 = swp (μ 34 59) a b → K μ1) : c_v G (d + 1) YX12_changes [vR 34 0, vI (a : Int), vI (b : Int)] μ K := by
  refine EX12_changes ⟨⟨by omega, by omega⟩, fun x1 e1 => ⟨⟨by omega, by omega⟩, ⟨by omega, by omega⟩, fun μ2 e2 => ⟨⟨by omega, by omega⟩, fun μ3 e3 => ?_⟩⟩⟩
  rw [Int.toNat_natCast] at e1 e2 e3
  rw [Int.toNat_natCast] at e2
  subst e1
  exact k μ3 (fun x y z q => by rw [e3, m_up_ne _ _ (by omega), e2, m_up_ne _ _ (by omega)]) (m_swp e2 e3)
theorem next_ok {row f : Nat → Int} {at_ x : Nat} (hr : isArr B kn rm row) (hat : at_ < x) (hx : x < rm) (hd : ∀ q, at_ + 1 ≤ q → q + 1 < rm → row (q + 1) ≤ row q) (hlx : row at_ < row x) (hge : ∀ q, x < q → q < rm → row q ≤ row at_) (hcv : ∀ v, cv f v 0 rm = cv row v 0 rm) (hpre : ∀ q, q < at_ → f q = row q) (hfa : f at_ = row x) (hinc : ∀ q, at_ + 1 ≤ q → q + 1 < rm → f q ≤ f (q + 1)) : isArr B kn rm f ∧ lexlt rm row f ∧ ∀ row', isArr B kn rm row' → lexle rm row' row ∨ lexle rm f row' := by
  have hf := hr.of hcv
  refine ⟨hf, ⟨at_, by omega, fun q hq => (hpre q hq).symm, by rw [hfa]; exact hlx⟩, fun row' hr' => ?_⟩
  rcases lex_cases row row' rm with h | h | h
  · exact Or.inl (Or.inl (fun p hp => (h p hp).symm))
  · obtain ⟨j, hj, e, l⟩ := h
    right
    by_cases y : j < at_
    · exact Or.inr ⟨j, hj, fun q hq => by rw [hpre q (by omega)]; exact e q hq, by rw [hpre j y]; exact l⟩
    · by_cases y2 : at_ < j
      · exfalso
        have := dec_max hj (fun q h1 h2 => hd q (by omega) h2) (cv_rest (by omega) (fun v => hr.cvs hr' v) e)
        omega
      · have : j = at_ := by omega
        subst this
        have cr := cv_rest (j := j) (by omega) (fun v => hr.cvs hr' v) e
        have := cv_pos (row := row') (v := row' j) (i := j) (r := rm - j) (j := j) (by omega) (by omega) rfl
        rw [← cr] at this
        obtain ⟨q, h1, h2, h3⟩ := cv_ex this
        have hqj : j < q := by
          apply Classical.byContradiction
          intro z
          have : q = j := by omega
          rw [this] at h3; omega
        have hqx : q ≤ x := by
          apply Classical.byContradiction
          intro z
          have := hge q (by omega) (by omega)
          omega
        have := dec_le hd (x - q) q (by omega) (by omega)
        rw [show q + (x - q) = x by omega] at this
        by_cases z : f j = row' j
        · exact inc_min (rm - (j + 1)) (j + 1) (by omega) hinc (cv_rest (by omega) (fun v => hf.cvs hr' v) (fun i hi => by
            by_cases w : i = j
            · subst w; exact z
            · rw [hpre i (by omega)]; exact e i (by omega))) (fun i hi => by
            by_cases w : i = j
            · subst w; exact z
            · rw [hpre i (by omega)]; exact e i (by omega))
        · exact Or.inr ⟨j, hj, fun i hi => by rw [hpre i hi]; exact e i hi, by omega⟩
  · exact Or.inl h.le
theorem mo_next {d : Nat} {μ : m_M} (hr : isArr B kn rm (μ 34 59)) (h1 : 1 ≤ rm) (h6 : rm ≤ 6) {K : Int → m_M → Prop} (k0 : (∀ row', isArr B kn rm row' → lexle rm row' (μ 34 59)) → K 0 μ) (k1 : ∀ μ1, of59 μ μ1 → isArr B kn rm (μ1 34 59) → lexlt rm (μ 34 59) (μ1 34 59) → (∀ row', isArr B kn rm row' → lexle rm row' (μ 34 59) ∨ lexle rm (μ1 34 59) row') → K 1 μ1) : c_i G (d + 2) YX12_isNextRow [vR 34 0, vI (rm : Int)] μ K := by
  obtain ⟨row, hrow⟩ : ∃ row, row = μ 34 59 := ⟨_, rfl⟩
  have wr : w32 ((rm : Int) - 1) = ((rm - 1 : Nat) : Int) := by rw [w32_le (by omega) (by omega)]; omega
  refine EX12_isNextRow (fun X C R x1 ex1 => ?_)
  rw [w32_le (by omega) (by omega)] at ex1
  subst ex1
  -- the rest is turned round
  have L3 : ∀ (at_ x : Nat), at_ < x → x < rm → (∀ q, at_ + 1 ≤ q → q + 1 < rm → row (q + 1) ≤ row q) → row at_ < row x → (∀ q, x < q → q < rm → row q ≤ row at_) → ∀ (m i : Nat) (μ1 : m_M), rm - (at_ + 1) ≤ 2 * i + m → 2 * i ≤ rm - (at_ + 1) + 1 → of59 μ μ1 → (∀ v, cv (μ1 34 59) v 0 rm = cv row v 0 rm) → (∀ q, q < at_ → μ1 34 59 q = row q) → μ1 34 59 at_ = row x → (∀ q, at_ + 1 ≤ q → q < rm → μ1 34 59 q = if q < at_ + 1 + i ∨ rm - 1 - i < q then swp row at_ x (at_ + rm - q) else swp row at_ x q) → mW G X YX12_isNextRow μ1 78 [some (vR 34 0), some (vI (rm : Int)), some (vI (at_ : Int)), some (vI (x : Int)), some (vI ((at_ + 1 + i : Nat) : Int)), some (vI ((rm : Int) - 1 - (i : Int)))] [] := by
    intro at_ x hax hxr hd hlx hge m
    have fin : ∀ (i : Nat) (μ1 : m_M), rm ≤ at_ + 2 + 2 * i → of59 μ μ1 → (∀ v, cv (μ1 34 59) v 0 rm = cv row v 0 rm) → (∀ q, q < at_ → μ1 34 59 q = row q) → μ1 34 59 at_ = row x → (∀ q, at_ + 1 ≤ q → q < rm → μ1 34 59 q = if q < at_ + 1 + i ∨ rm - 1 - i < q then swp row at_ x (at_ + rm - q) else swp row at_ x q) → K 1 μ1 := fun i μ1 hi o1 c1 p1 a1 s1 => by
      have rev : ∀ q, at_ + 1 ≤ q → q < rm → μ1 34 59 q = swp row at_ x (at_ + rm - q) := fun q h1 h2 => by
        rw [s1 q h1 h2]
        by_cases y : q < at_ + 1 + i ∨ rm - 1 - i < q
        · rw [if_pos y]
        · rw [if_neg y, show at_ + rm - q = q by omega]
      have sdec : ∀ q, at_ + 1 ≤ q → q + 1 < rm → swp row at_ x (q + 1) ≤ swp row at_ x q := fun q h1 h2 => by
        unfold swp
        by_cases y : q + 1 = x
        · rw [if_pos y, if_neg (by omega), if_neg (by omega)]
          have := dec_le hd (x - q) q (by omega) (by omega)
          rw [show q + (x - q) = x by omega] at this
          omega
        · by_cases y2 : q = x
          · rw [if_neg y, if_neg (by omega), if_pos y2]
            exact hge (q + 1) (by omega) h2
          · rw [if_neg y, if_neg (by omega), if_neg y2, if_neg (by omega)]
            exact hd q h1 h2
      have := next_ok (f := μ1 34 59) (by rw [hrow]; exact hr : isArr B kn rm row) hax hxr hd hlx hge c1 p1 a1 (fun q h1 h2 => by
        rw [rev q h1 (by omega), rev (q + 1) (by omega) h2]
        have := sdec (at_ + rm - (q + 1)) (by omega) (by omega)
        rw [show at_ + rm - (q + 1) + 1 = at_ + rm - q by omega] at this
        exact this)
      rw [hrow] at this
      exact k1 μ1 o1 this.1 this.2.1 this.2.2
    induction m with
    | zero =>
      intro i μ1 hm hm2 o1 c1 p1 a1 s1
      refine VX12_isNextRow_78 C R ⟨fun _ => fin i μ1 (by omega) o1 c1 p1 a1 s1, fun q => absurd (by omega) q⟩
    | succ m ih =>
      intro i μ1 hm hm2 o1 c1 p1 a1 s1
      refine VX12_isNextRow_78 C R ⟨fun q => fin i μ1 (by omega) o1 c1 p1 a1 s1, fun q => ?_⟩
      have hb : (rm : Int) - 1 - (i : Int) = ((rm - 1 - i : Nat) : Int) := by omega
      rw [hb]
      refine mo_chg (by omega) (by omega) (fun μ2 o2 e2 x2 ex2 x3 ex3 => ?_)
      rw [w32_s (by omega)] at ex3
      rw [w32_le (by omega) (by omega)] at ex2
      rw [show ((rm - 1 - i : Nat) : Int) + -1 = (rm : Int) - 1 - ((i + 1 : Nat) : Int) by omega] at ex2
      subst ex2; subst ex3
      refine ih (i + 1) μ2 (by omega) (by omega) (o1.tr o2) (fun v => by rw [e2, cv_swp (by omega) (by omega)]; exact c1 v) (fun j hj => ?_) ?_ (fun j h1 h2 => ?_)
      · rw [e2]; unfold swp; rw [if_neg (by omega), if_neg (by omega)]; exact p1 j hj
      · rw [e2]; unfold swp; rw [if_neg (by omega), if_neg (by omega)]; exact a1
      · rw [e2]
        by_cases y : j = rm - 1 - i
        · rw [if_pos (by omega)]
          show (if j = rm - 1 - i then μ1 34 59 (at_ + 1 + i) else _) = _
          rw [if_pos y, s1 (at_ + 1 + i) (by omega) (by omega), if_neg (by omega), show at_ + rm - j = at_ + 1 + i by omega]
        · by_cases y2 : j = at_ + 1 + i
          · rw [if_pos (by omega)]
            show (if j = rm - 1 - i then _ else if j = at_ + 1 + i then μ1 34 59 (rm - 1 - i) else _) = _
            rw [if_neg y, if_pos y2, s1 (rm - 1 - i) (by omega) (by omega), if_neg (by omega), show at_ + rm - j = rm - 1 - i by omega]
          · show (if j = rm - 1 - i then _ else if j = at_ + 1 + i then _ else μ1 34 59 j) = _
            rw [if_neg y, if_neg y2, s1 j h1 h2]
            by_cases y3 : j < at_ + 1 + i ∨ rm - 1 - i < j
            · rw [if_pos y3, if_pos (by omega)]
            · rw [if_neg y3, if_neg (by omega)]
  have L2 : ∀ (at_ : Nat), at_ + 1 < rm → (∀ q, at_ + 1 ≤ q → q + 1 < rm → row (q + 1) ≤ row q) → row at_ < row (at_ + 1) → ∀ (m x : Nat), x = at_ + 1 + m → x < rm → (∀ q, x < q → q < rm → row q ≤ row at_) → mW G X YX12_isNextRow μ 41 [some (vR 34 0), some (vI (rm : Int)), some (vI (at_ : Int)), some (vI (x : Int)), none, none] [] := by
    intro at_ hat hd hlt m
    induction m with
    | zero =>
      intro x hx hxr hge
      refine VX12_isNextRow_41 C R ?_
      rw [Int.toNat_natCast, Int.toNat_natCast, ← hrow, wr, w32_s (by omega)]
      have hlx : row at_ < row x := by rw [hx]; exact hlt
      refine ⟨⟨by omega, by omega⟩, ⟨by omega, by omega⟩, fun _ => mo_chg (by omega) (by omega) (fun μ2 o2 e2 x2 ex2 x3 ex3 => ?_), fun q => absurd hlx q⟩
      subst ex2; subst ex3
      rw [← hrow] at e2
      have := L3 at_ x (by omega) hxr hd hlx hge rm 0 μ2 (by omega) (by omega) o2 (fun v => by rw [e2, cv_swp (by omega) hxr]) (fun q hq => by rw [e2]; unfold swp; rw [if_neg (by omega), if_neg (by omega)]) (by rw [e2]; unfold swp; rw [if_neg (by omega), if_pos rfl]) (fun q h1 h2 => by rw [e2, if_neg (by omega)])
      rw [show (rm : Int) - 1 - ((0 : Nat) : Int) = ((rm - 1 : Nat) : Int) by omega] at this
      exact this
    | succ m ih =>
      intro x hx hxr hge
      refine VX12_isNextRow_41 C R ?_
      rw [Int.toNat_natCast, Int.toNat_natCast, ← hrow, wr, w32_s (by omega), show w32 ((x : Int) + -1) = ((x - 1 : Nat) : Int) by rw [w32_le (by omega) (by omega)]; omega]
      refine ⟨⟨by omega, by omega⟩, ⟨by omega, by omega⟩, fun hlx => mo_chg (by omega) (by omega) (fun μ2 o2 e2 x2 ex2 x3 ex3 => ?_), fun q x4 e4 => ?_⟩
      · subst ex2; subst ex3
        rw [← hrow] at e2
        have := L3 at_ x (by omega) hxr hd hlx hge rm 0 μ2 (by omega) (by omega) o2 (fun v => by rw [e2, cv_swp (by omega) hxr]) (fun q hq => by rw [e2]; unfold swp; rw [if_neg (by omega), if_neg (by omega)]) (by rw [e2]; unfold swp; rw [if_neg (by omega), if_pos rfl]) (fun q h1 h2 => by rw [e2, if_neg (by omega)])
        rw [show (rm : Int) - 1 - ((0 : Nat) : Int) = ((rm - 1 : Nat) : Int) by omega] at this
        exact this
      · subst e4
        refine ih (x - 1) (by omega) (by omega) (fun j h1 h2 => ?_)
        by_cases y : j = x
        · subst y; omega
        · exact hge j (by omega) h2
  have L1 : ∀ (n : Nat), n + 1 ≤ rm → (∀ q, n ≤ q → q + 1 < rm → row (q + 1) ≤ row q) → mW G X YX12_isNextRow μ 4 [some (vR 34 0), some (vI (rm : Int)), some (vI ((n : Int) - 1)), none, none, none] [] := by
    intro n
    induction n with
    | zero =>
      intro _ hd
      refine VX12_isNextRow_4 C R ⟨fun _ => ⟨fun q => absurd q (by omega), fun _ => k0 (fun row' hr' => ?_)⟩, fun q => absurd (by omega) q⟩
      rw [← hrow] at hr ⊢
      rcases lex_cases row row' rm with h | h | h
      · exact Or.inl (fun p hp => (h p hp).symm)
      · obtain ⟨j, hj, e, l⟩ := h
        exfalso
        have := dec_max hj (fun q h1 h2 => hd q (by omega) h2) (cv_rest (by omega) (fun v => hr.cvs hr' v) e)
        omega
      · exact h.le
    | succ n ih =>
      intro hn hd
      rw [show ((n + 1 : Nat) : Int) - 1 = (n : Int) by omega]
      refine VX12_isNextRow_4 C R ⟨fun q => absurd q (by omega), fun _ => ?_⟩
      rw [w32_s (by omega), Int.toNat_natCast, Int.toNat_natCast, ← hrow, wr]
      refine ⟨⟨by omega, by omega⟩, ⟨by omega, by omega⟩, fun hlt => ⟨fun _ x2 e2 => ?_, fun q => absurd (by omega) q⟩, fun hnl x3 e3 => ?_⟩
      · subst e2
        exact L2 n (by omega) hd hlt (rm - 1 - (n + 1)) (rm - 1) (by omega) (by omega) (fun q h1 h2 => by omega)
      · rw [w32_le (by omega) (by omega)] at e3
        subst e3
        refine ih (by omega) (fun q h1 h2 => ?_)
        by_cases y : q = n
        · subst y; omega
        · exact hd q (by omega) h2
  have := L1 (rm - 1) (by omega) (fun q h1 h2 => by omega)
  rw [show ((rm - 1 : Nat) : Int) - 1 = (rm : Int) - 2 by omega] at this
  exact this
end NX
