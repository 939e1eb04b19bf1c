/-! ===== on, the rest ===== -/
theorem bitv {x : Int} {k : Nat} (hx : bt x) (hk : k < 31) : i_and (i_shr x (k : Int)) 1 = if tb x k then 1 else 0 := by
  have h := tb_i hx hk
  obtain ⟨a, rfl⟩ : ∃ a : Nat, x = (a : Int) := ⟨x.toNat, by have := hx.1; omega⟩
  have ha : a < 2147483648 := by have := hx.2; omega
  have hd : a / 2 ^ k ≤ a := Nat.div_le_self _ _
  rw [i_shr_nat ha hk, show (1 : Int) = ((1 : Nat) : Int) from rfl, i_and_nat (by omega) (by omega), Nat.and_one_is_mod] at h ⊢
  by_cases q : tb (a : Int) k = true
  · rw [if_pos q]; exact h.mpr q
  · rw [if_neg q]
    have : ¬ ((a / 2 ^ k % 2 : Nat) : Int) = ((1 : Nat) : Int) := fun z => q (h.mp z)
    generalize a / 2 ^ k = y at this ⊢
    omega
def symB (st : Nat → Int) : Prop := ∀ a, a < 8 → tb (st a) a = false ∧ ∀ e, e < 8 → tb (st a) e = tb (st e) a
def chT (T : Nat → Int) : Nat → Int
  | 0 => 241
  | n + 1 => (5 * chT T n + T n) % 251
theorem chT_in (T : Nat → Int) : ∀ n, 0 ≤ chT T n ∧ chT T n ≤ 250 := by
  intro n
  cases n with
  | zero => unfold chT; omega
  | succ n => unfold chT; omega
def onB (A : m_T) (T : Nat → Int) : Nat → Nat → Int := fun k i =>
  if k = 0 then (if i = 0 then 256 * T 0 + T 1 else if i = 1 then 256 * T 2 + T 3 else 0)
  else if k = 3 then (if i < tw_nc A then kT T i else -1) else if k = 4 then (if i < tw_nc A then pT T i else -1) else if k = 5 then (if i < tw_nc A then tT T i else -1)
  else if k = 6 then (if i < tw_nc A then T (4 + 6 * i + 4) else 0) else if k = 7 then (if i < tw_nc A then T (4 + 6 * i + 5) else 0)
  else if k = 8 then (if i < tw_nk A then oN (T (4 + 6 * tw_nc A + i)) else -1) else 0
def okOn (A : m_T) (T : Nat → Int) (n : Nat) : Prop := n = 4 + 6 * tw_nc A + tw_nk A + 1 ∧ chT T (4 + 6 * tw_nc A + tw_nk A) = T (4 + 6 * tw_nc A + tw_nk A) ∧ (256 * T 0 + T 1 ≤ 999 ∧ 256 * T 2 + T 3 ≤ 9999) ∧ (∀ c, c < tw_nc A → okC A T c) ∧ (∀ k, k < tw_nk A → oN (T (4 + 6 * tw_nc A + k)) ≤ 20) ∧ symB (onB A T 7)
theorem shl8_all : ∀ a, a < 256 → (Int32.ofInt ((a : Nat) : Int) <<< (Int32.ofInt 8 &&& 31)).toInt = ((a * 256 : Nat) : Int) := by decide +kernel
theorem or_shl8 {a b : Int} (ha : 0 ≤ a ∧ a ≤ 255) (hb : 0 ≤ b ∧ b ≤ 255) : i_or (i_shl a 8) b = 256 * a + b := by
  obtain ⟨x, rfl⟩ : ∃ x : Nat, a = (x : Int) := ⟨a.toNat, by omega⟩
  obtain ⟨y, rfl⟩ : ∃ y : Nat, b = (y : Int) := ⟨b.toNat, by omega⟩
  rw [i_shl_def, shl8_all x (by omega), i_or_nat (by omega) (by omega)]
  have := Nat.two_pow_add_eq_or_of_lt (b := y) (i := 8) (by omega) x
  rw [Nat.mul_comm x 256, show (256 : Nat) = 2 ^ 8 from rfl, ← this]
  omega
theorem okOn.BI {A : m_T} {T : Nat → Int} {n : Nat} (hA : TA A) (hT : ∀ i, i < n → 0 ≤ T i ∧ T i ≤ 255) (h : okOn A T n) : BI A (onB A T) := by
  obtain ⟨hn, -, hw, hc, hk, -⟩ := h
  have h8 := hA.1
  have h3 := hA.2.1
  have t0 := hT 0 (by omega)
  have t1 := hT 1 (by omega)
  have t2 := hT 2 (by omega)
  have t3 := hT 3 (by omega)
  refine ⟨?_, ?_, ?_, fun k hk3 => ?_, fun c hc8 => ?_, fun c e hc8 he8 => ?_⟩
  · show 0 ≤ 256 * T 0 + T 1 ∧ 256 * T 0 + T 1 ≤ 999
    omega
  · show 0 ≤ 256 * T 2 + T 3 ∧ 256 * T 2 + T 3 ≤ 9999
    omega
  · show (0 : Int) ≤ 0 ∧ (0 : Int) ≤ _
    omega
  · show (-1 ≤ (if k < tw_nk A then oN (T (4 + 6 * tw_nc A + k)) else -1) ∧ (if k < tw_nk A then oN (T (4 + 6 * tw_nc A + k)) else -1) ≤ 20) ∧ (tw_nk A ≤ k → (if k < tw_nk A then oN (T (4 + 6 * tw_nc A + k)) else -1) = -1)
    by_cases q : k < tw_nk A
    · have := oN_in (hT (4 + 6 * tw_nc A + k) (by omega))
      have := hk k q
      rw [if_pos q]
      omega
    · rw [if_neg q]; omega
  · unfold BC
    show ((if c < tw_nc A then tT T c else -1) = -1 ∧ (if c < tw_nc A then T (4 + 6 * c + 4) else 0) = 0 ∧ (if c < tw_nc A then T (4 + 6 * c + 5) else 0) = 0 ∧ ((if c < tw_nc A then kT T c else -1) = -1 ∧ (if c < tw_nc A then pT T c else -1) = -1 ∨ c < tw_nc A ∧ ∃ k : Nat, k < tw_nk A ∧ (if c < tw_nc A then kT T c else -1) = (k : Int) ∧ 0 ≤ (if c < tw_nc A then pT T c else -1) ∧ (if c < tw_nc A then pT T c else -1) < tw_room A k)) ∨ (c < tw_nc A ∧ (0 ≤ (if c < tw_nc A then tT T c else -1) ∧ (if c < tw_nc A then tT T c else -1) ≤ 99) ∧ ((if c < tw_nc A then T (4 + 6 * c + 4) else 0) = 0 ∨ (if c < tw_nc A then T (4 + 6 * c + 4) else 0) = 1) ∧ (0 ≤ (if c < tw_nc A then T (4 + 6 * c + 5) else 0) ∧ (if c < tw_nc A then T (4 + 6 * c + 5) else 0) < 256) ∧ (if c < tw_nc A then kT T c else -1) = -1 ∧ (if c < tw_nc A then pT T c else -1) = -1)
    by_cases q : c < tw_nc A
    · simp only [if_pos q]
      have b4 := hT (4 + 6 * c + 4) (by omega)
      have b5 := hT (4 + 6 * c + 5) (by omega)
      rcases hc c q with ⟨-, z1, z2, z3, z4⟩ | ⟨-, z1, z2, z3, z4⟩
      · refine Or.inl ⟨z2, z3, z4, ?_⟩
        rcases z1 with z | ⟨⟨z, z', z''⟩, -⟩
        · exact Or.inl z
        · exact Or.inr ⟨q, (kT T c).toNat, by omega, by omega, z', z''⟩
      · exact Or.inr ⟨q, z3, by omega, by omega, z1, z2⟩
    · simp only [if_neg q]
      exact Or.inl ⟨trivial, trivial, trivial, Or.inl ⟨trivial, trivial⟩⟩
  · show (if c < tw_nc A then kT T c else -1) = (if e < tw_nc A then kT T e else -1) → (if c < tw_nc A then pT T c else -1) = (if e < tw_nc A then pT T e else -1) → (if c < tw_nc A then kT T c else -1) ≠ -1 → c = e
    by_cases q : c < tw_nc A
    · by_cases q2 : e < tw_nc A
      · rw [if_pos q, if_pos q, if_pos q2, if_pos q2]
        intro y3 y4 y5
        have key : ∀ c e, c < tw_nc A → kT T c = kT T e → pT T c = pT T e → kT T c ≠ -1 → ¬ e < c := fun c e hcn a1 a2 a3 hlt => by
          rcases hc c hcn with ⟨-, z | ⟨-, z⟩, -⟩ | ⟨-, z, -⟩
          · exact a3 z.1
          · exact z e hlt ⟨a1.symm, a2.symm⟩
          · exact a3 z
        have := key c e q y3 y4 y5
        have := key e c q2 y3.symm y4.symm (by rw [← y3]; exact y5)
        omega
      · rw [if_pos q, if_pos q, if_neg q2, if_neg q2]
        intro y3 _ y5
        exact absurd y3 y5
    · rw [if_neg q]
      intro _ _ y5
      exact absurd rfl y5
section ON2
variable {G : m_G} {a1 a2 a3 a4 : Int}
theorem c_sym {d : Nat} {μ : m_M} (h8 : ∀ c, c < 8 → in8 (μ 11 7 c)) {K : Int → m_M → Prop} (k1 : symB (μ 11 7) → K 1 μ) (k0 : ¬ symB (μ 11 7) → K 0 μ) : c_i G (d + 1) YX3_isStuckBothWays [vR 11 0] μ K := by
  refine EX3_isStuckBothWays (by decide) (fun X C R => ?_)
  have I : ∀ (r a : Nat), a + r = 8 → (∀ c, c < a → tb (μ 11 7 c) c = false ∧ ∀ e, e < 8 → tb (μ 11 7 c) e = tb (μ 11 7 e) c) → mW G X YX3_isStuckBothWays μ 2 [some (vR 11 0), some (vI (a : Int)), none] [] := by
    intro r
    induction r with
    | zero =>
      intro a ha hq
      exact VX3_isStuckBothWays_2 C R (by decide) ⟨fun _ => k1 (fun c hc => hq c (by omega)), fun q => absurd (by omega) q⟩
    | succ r ih =>
      intro a ha hq
      have ha8 : a < 8 := by omega
      refine VX3_isStuckBothWays_2 C R (by decide) ⟨fun q => absurd q (by omega), fun _ => ⟨⟨by omega, by omega⟩, ?_⟩⟩
      rw [Int.toNat_natCast, bitv (h8 a ha8).bt (by omega)]
      by_cases hs : tb (μ 11 7 a) a = true
      · rw [if_pos hs]
        refine ⟨fun q => absurd rfl q, fun _ => k0 (fun z => ?_)⟩
        have := (z a ha8).1
        rw [hs] at this
        exact absurd this (by decide)
      · rw [if_neg hs]
        have hs' : tb (μ 11 7 a) a = false := by revert hs; cases tb (μ 11 7 a) a <;> simp
        refine ⟨fun _ => ?_, fun q => absurd q (by decide)⟩
        have J : ∀ (r e : Nat), e + r = 8 → (∀ e', e' < e → tb (μ 11 7 a) e' = tb (μ 11 7 e') a) → mW G X YX3_isStuckBothWays μ 26 [some (vR 11 0), some (vI (a : Int)), some (vI (e : Int))] [] := by
          intro r
          induction r with
          | zero =>
            intro e he hq2
            refine VX3_isStuckBothWays_26 C R (by decide) ⟨fun _ x1 e1 => ?_, fun q => absurd (by omega) q⟩
            rw [w32_s (by omega)] at e1
            subst e1
            refine ih (a + 1) (by omega) (fun c hc => ?_)
            by_cases z : c = a
            · subst z; exact ⟨hs', fun e' he' => hq2 e' (by omega)⟩
            · exact hq c (by omega)
          | succ r ih2 =>
            intro e he hq2
            have he8 : e < 8 := by omega
            refine VX3_isStuckBothWays_26 C R (by decide) ⟨fun q => absurd q (by omega), fun _ => ⟨⟨by omega, by omega⟩, ⟨by omega, by omega⟩, ?_⟩⟩
            rw [Int.toNat_natCast, Int.toNat_natCast, bitv (h8 a ha8).bt (by omega), bitv (h8 e he8).bt (by omega), w32_s (by omega)]
            refine ⟨fun q x2 e2 => ?_, fun q => k0 (fun z => q (by rw [(z a ha8).2 e he8]))⟩
            subst e2
            refine ih2 (e + 1) (by omega) (fun e' he' => ?_)
            by_cases z : e' = e
            · subst z
              cases y : tb (μ 11 7 a) e' <;> cases y2 : tb (μ 11 7 e') a <;> rw [y, y2] at q <;> first | rfl | (exact absurd q (by decide))
            · exact hq2 e' (by omega)
        exact J 8 0 (by omega) (fun e' he' => by omega)
  exact I 8 0 (by omega) (fun c hc => by omega)
def modS (nc : Nat) (st tm : Nat → Int) : Prop := ∀ a, a < nc → ∀ e, e < 8 → tb (st a) e = true → a ≠ e ∧ e < nc ∧ tm e ≠ -1 ∧ tb (st e) a = true
theorem modS_sym {nc : Nat} (hn : nc ≤ 8) {st tm : Nat → Int} (h1 : ∀ c, nc ≤ c → c < 8 → st c = 0) (h2 : ∀ c, c < nc → tm c = -1 → st c = 0) : modS nc st tm ↔ symB st := by
  constructor
  · intro h a ha
    have one : ∀ a e, a < 8 → e < 8 → tb (st a) e = true → a ≠ e ∧ tb (st e) a = true := fun a e ha he hb => by
      by_cases q : a < nc
      · have := h a q e he hb
        exact ⟨this.1, this.2.2.2⟩
      · rw [h1 a (by omega) ha, tb_0] at hb
        exact absurd hb (by decide)
    refine ⟨?_, fun e he => ?_⟩
    · cases q : tb (st a) a with
      | false => rfl
      | true => exact absurd rfl (one a a ha ha q).1
    · cases q : tb (st a) e with
      | true => exact (one a e ha he q).2.symm
      | false =>
        cases q2 : tb (st e) a with
        | false => rfl
        | true =>
          have := (one e a he ha q2).2
          rw [q] at this
          exact absurd this (by decide)
  · intro h a ha e he hb
    have h3 := (h a (by omega)).2 e he
    rw [hb] at h3
    refine ⟨fun z => ?_, ?_, fun z => ?_, h3.symm⟩
    · subst z
      rw [(h a (by omega)).1] at hb
      exact absurd hb (by decide)
    · apply Classical.byContradiction
      intro z
      rw [h1 e (by omega) he, tb_0] at h3
      exact absurd h3 (by decide)
    · by_cases q : e < nc
      · rw [h2 e q z, tb_0] at h3
        exact absurd h3 (by decide)
      · rw [h1 e (by omega) he, tb_0] at h3
        exact absurd h3 (by decide)
theorem mo_sym {d b : Nat} {μ : m_M} {A : m_T} (hM : MT μ b A) (h8 : ∀ c, c < 8 → in8 (μ 34 48 (8 + c))) {K : Int → m_M → Prop} (k1 : modS (tw_nc A) (fun c => μ 34 48 (8 + c)) (fun c => μ 34 47 (8 + c)) → K 1 μ) (k0 : ¬ modS (tw_nc A) (fun c => μ 34 48 (8 + c)) (fun c => μ 34 47 (8 + c)) → K 0 μ) : c_i G (d + 2) YX12_areStuck [vR 34 0] μ K := by
  have hb := hM.2.1
  have hnc := hM.2.2.2.1.1
  refine EX12_areStuck (fun X C R => ?_)
  have I : ∀ (r a : Nat), a + r = tw_nc A → (∀ c, c < a → ∀ e, e < 8 → tb (μ 34 48 (8 + c)) e = true → c ≠ e ∧ e < tw_nc A ∧ μ 34 47 (8 + e) ≠ -1 ∧ tb (μ 34 48 (8 + e)) c = true) → mW G X YX12_areStuck μ 2 [some (vR 34 0), some (vI (a : Int)), none] [] := by
    intro r
    induction r with
    | zero =>
      intro a ha hq
      refine VX12_areStuck_2 C R ?_
      rw [hM.1, Int.toNat_natCast, hM.nc]
      exact ⟨⟨by omega, by omega⟩, fun _ => k1 (fun c hc => hq c (by omega)), fun q => absurd (by omega) q⟩
    | succ r ih =>
      intro a ha hq
      have ha8 : a < 8 := by omega
      refine VX12_areStuck_2 C R ?_
      rw [hM.1, Int.toNat_natCast, hM.nc]
      refine ⟨⟨by omega, by omega⟩, fun q => absurd q (by omega), fun _ => ?_⟩
      have J : ∀ (r e : Nat), e + r = 8 → (∀ e', e' < e → tb (μ 34 48 (8 + a)) e' = true → a ≠ e' ∧ e' < tw_nc A ∧ μ 34 47 (8 + e') ≠ -1 ∧ tb (μ 34 48 (8 + e')) a = true) → mW G X YX12_areStuck μ 17 [some (vR 34 0), some (vI (a : Int)), some (vI (e : Int))] [] := by
        intro r
        induction r with
        | zero =>
          intro e he hq2
          refine VX12_areStuck_17 C R ⟨fun _ x1 e1 => ?_, fun q => absurd (by omega) q⟩
          rw [w32_s (by omega)] at e1
          subst e1
          refine ih (a + 1) (by omega) (fun c hc => ?_)
          by_cases z : c = a
          · subst z; exact fun e' he' => hq2 e' (by omega)
          · exact hq c (by omega)
        | succ r ih2 =>
          intro e he hq2
          have he8 : e < 8 := by omega
          have wa : w32 (8 + (a : Int)) = ((8 + a : Nat) : Int) := by rw [w32_le (by omega) (by omega)]; omega
          have we : w32 (8 + (e : Int)) = ((8 + e : Nat) : Int) := by rw [w32_le (by omega) (by omega)]; omega
          have ta := tb_i (x := μ 34 48 (8 + a)) (k := e) (h8 a ha8).bt (by omega)
          have te := tb_i (x := μ 34 48 (8 + e)) (k := a) (h8 e he8).bt (by omega)
          refine VX12_areStuck_17 C R ⟨fun q => absurd q (by omega), fun _ => ?_⟩
          rw [wa, we, Int.toNat_natCast, Int.toNat_natCast, w32_s (by omega)]
          have nx : (tb (μ 34 48 (8 + a)) e = true → a ≠ e ∧ e < tw_nc A ∧ μ 34 47 (8 + e) ≠ -1 ∧ tb (μ 34 48 (8 + e)) a = true) → mW G X YX12_areStuck μ 17 [some (vR 34 0), some (vI (a : Int)), some (vI ((e + 1 : Nat) : Int))] [] := fun h => by
            refine ih2 (e + 1) (by omega) (fun e' he' => ?_)
            by_cases z : e' = e
            · subst z; exact h
            · exact hq2 e' (by omega)
          refine ⟨⟨by omega, by omega⟩, EX12_has2 ⟨fun q => ⟨z0, fun _ x9 e9 => ?_⟩, fun q => ⟨fun _ => ⟨fun q2 => k0 (fun z => ?_), fun q2 => ?_⟩, z1⟩⟩⟩
          · subst e9
            rw [ta] at q
            exact nx (fun z => absurd z q)
          · rw [ta] at q
            exact absurd (by omega) (z a (by omega) e he8 q).1
          · rw [ta] at q
            by_cases hch : e < tw_nc A
            · refine mt_child_y hM ⟨by omega, by omega⟩ ⟨z1, fun _ => ⟨⟨by omega, by omega⟩, fun q3 => k0 (fun z => (z a (by omega) e he8 q).2.2.1 q3), fun q3 => ⟨⟨by omega, by omega⟩, EX12_has2 ⟨fun q4 => ⟨z0, fun _ => k0 (fun z => ?_)⟩, fun q4 => ⟨fun _ x8 e8 => ?_, z1⟩⟩⟩⟩⟩
              · rw [te] at q4
                exact q4 (z a (by omega) e he8 q).2.2.2
              · subst e8
                rw [te] at q4
                exact nx (fun _ => ⟨by omega, hch, q3, q4⟩)
            · exact mt_child_n hM (by omega) ⟨fun _ => k0 (fun z => hch (z a (by omega) e he8 q).2.1), z0⟩
      exact J 8 0 (by omega) (fun e' he' => by omega)
  exact I (tw_nc A) 0 (by omega) (fun c hc => by omega)
/-- the class reads -/
theorem c_rd {d t n : Nat} {μ : m_M} {A : m_T} {T : Nat → Int} (hA : TA A) (ht : m_cls t = 9) (h3 : μ t 0 3 = (tw_nc A : Int)) (h6 : μ t 0 6 = (tw_nk A : Int)) (hs : μ t 0 7 = tw_stock A) (hro : ∀ k, k < tw_nk A → μ t 6 k = tw_room A k) (hT : ∀ i, i < n → (0 ≤ T i ∧ T i ≤ 255) ∧ μ 1 1 i = sg (T i)) (hn2 : n ≤ 1600) {K : Int → m_M → Prop} (k1 : okOn A T n → ∀ μ1, (∀ x y z, x ≠ 11 → μ1 x y z = μ x y z) → beq (μ1 11) (onB A T) → K 1 μ1) (k0 : ¬ okOn A T n → ∀ μ1, (∀ x y z, x ≠ 11 → μ1 x y z = μ x y z) → K 0 μ1) : c_i G (d + 4) YX3_read [vR 9 0, vR 1 1, vI (n : Int), vR t 0, vR 11 0] μ K := by
  have h8 := hA.1
  have hk3 := hA.2.1
  have ht11 : t ≠ 11 := cls_ne ht (show m_cls 11 = 0 from rfl) (by decide)
  obtain ⟨nc, hnc⟩ : ∃ nc, nc = tw_nc A := ⟨_, rfl⟩
  obtain ⟨nk, hnk⟩ : ∃ nk, nk = tw_nk A := ⟨_, rfl⟩
  rw [← hnc] at h3 h8
  rw [← hnk] at h6 hk3
  refine EX3_read ht (by decide) (fun X C R x1 e1 x2 e2 => ?_)
  rw [h3, w32_le (z := (nc : Int) * 6) (by omega) (by omega), w32_le (by omega) (by omega), show 4 + (nc : Int) * 6 = ((4 + 6 * nc : Nat) : Int) by omega] at e1
  subst e1
  rw [h6, w32_nat (by omega)] at e2
  subst e2
  rw [w32_s (by omega)]
  refine ⟨fun q => k0 (fun z => q (by have := z.1; rw [← hnc, ← hnk] at this; omega)) μ (fun _ _ _ _ => rfl), fun q => ?_⟩
  have hn : n = 4 + 6 * nc + nk + 1 := by omega
  have chk : ∀ (K' : Int → m_M → Prop), K' (if chT T (4 + 6 * nc + nk) = T (4 + 6 * nc + nk) then 1 else 0) μ → c_i G (d + 3) YX3_isChecked [vR 1 1, vI ((4 + 6 * nc + nk : Nat) : Int)] μ K' := fun K' kk => by
    refine EX3_isChecked (fun X C R => ?_)
    have L : ∀ (r i : Nat), i + r = 4 + 6 * nc + nk → mW G X YX3_isChecked μ 6 [some (vR 1 1), some (vI ((4 + 6 * nc + nk : Nat) : Int)), some (vI (chT T i)), some (vI (i : Int))] [] := by
      intro r
      induction r with
      | zero =>
        intro i hi
        have ei : i = 4 + 6 * nc + nk := by omega
        subst ei
        have g := hT (4 + 6 * nc + nk) (by omega)
        refine VX3_isChecked_6 C R ⟨fun _ => ⟨⟨by omega, by omega⟩, ?_⟩, fun q => absurd (by omega) q⟩
        rw [Int.toNat_natCast, g.2, and_sg g.1]
        refine ⟨fun q => ?_, fun q => ?_⟩
        · rw [if_neg q] at kk; exact kk
        · rw [if_pos q] at kk; exact kk
      | succ r ih =>
        intro i hi
        have g := hT i (by omega)
        have hc := chT_in T i
        refine VX3_isChecked_6 C R ⟨fun q => absurd q (by omega), fun _ => ⟨⟨by omega, by omega⟩, EX3_addToCheck (fun x4 e4 => ?_)⟩⟩
        rw [w32_s (by omega)] at e4
        subst e4
        rw [Int.toNat_natCast, g.2, and_sg g.1, w32_le (z := 5 * chT T i) (by omega) (by omega), w32_le (by omega) (by omega), Int.tmod_eq_emod_of_nonneg (by omega)]
        exact ih (i + 1) (by omega)
    exact L (4 + 6 * nc + nk) 0 (by omega)
  refine chk _ ?_
  by_cases hck : chT T (4 + 6 * nc + nk) = T (4 + 6 * nc + nk)
  · rw [if_pos hck]
    refine ⟨fun _ => c_begin (A := A) (by decide) ht hs (fun μ5 o5 b5 μ6 e6 μ7 e7 => ?_), z1⟩
    have g0 := hT 0 (by omega)
    have g1 := hT 1 (by omega)
    have g2 := hT 2 (by omega)
    have g3 := hT 3 (by omega)
    rw [o5 1 1 0 (by decide), o5 1 1 1 (by decide), g0.2, g1.2, and_sg g0.1, and_sg g1.1, or_shl8 g0.1 g1.1] at e6
    rw [e6, m_up_ne (a := 1) (b := 1) (c := 2) _ _ (by omega), m_up_ne (a := 1) (b := 1) (c := 3) _ _ (by omega), o5 1 1 2 (by decide), o5 1 1 3 (by decide), g2.2, g3.2, and_sg g2.1, and_sg g3.1, or_shl8 g2.1 g3.1] at e7
    have v0 : μ7 11 0 0 = 256 * T 0 + T 1 := by rw [e7, m_up_ne _ _ (by omega), m_up_at]
    have v1 : μ7 11 0 1 = 256 * T 2 + T 3 := by rw [e7, m_up_at]
    have f7 : ∀ x y z, ¬ (x = 11 ∧ y = 0 ∧ (z = 0 ∨ z = 1)) → μ7 x y z = μ5 x y z := fun x y z q => by rw [e7, m_up_ne _ _ (by omega), m_up_ne _ _ (by omega)]
    have o7 : ∀ x y z, x ≠ 11 → μ7 x y z = μ x y z := fun x y z hx => (f7 x y z (by omega)).trans (o5 x y z hx)
    rw [v0, v1]
    have bad : ¬ okOn A T n → ∀ (μ1 : m_M) (l8 : Int), (∀ x y z, x ≠ 11 → μ1 x y z = μ x y z) → mW G X YX3_read μ1 164 [some (vR 9 0), some (vR 1 1), some (vI (n : Int)), some (vR t 0), some (vR 11 0), some (vI ((4 + 6 * nc : Nat) : Int)), some (vI ((4 + 6 * nc + nk : Nat) : Int)), some (vI 0), some (vI l8), none] [] := fun hno μ1 l8 o1 =>
      VX3_read_164 C R ht (by decide) ⟨fun _ => ⟨fun _ => k0 hno μ1 o1, z0⟩, fun _ => ⟨fun _ => ⟨fun _ => k0 hno μ1 o1, z0⟩, z0⟩⟩
    have bad1 : ¬ okOn A T n → ∀ (μ1 : m_M) (l8 : Int), (∀ x y z, x ≠ 11 → μ1 x y z = μ x y z) → mW G X YX3_read μ1 123 [some (vR 9 0), some (vR 1 1), some (vI (n : Int)), some (vR t 0), some (vR 11 0), some (vI ((4 + 6 * nc : Nat) : Int)), some (vI ((4 + 6 * nc + nk : Nat) : Int)), some (vI 0), some (vI l8), none] [] := fun hno μ1 l8 o1 =>
      VX3_read_123 C R ht (by decide) ⟨fun _ => bad hno μ1 0 o1, fun _ => ⟨fun _ => bad hno μ1 0 o1, z0⟩⟩
    refine ⟨fun q => bad1 (fun z => by have := z.2.2.1.1; omega) μ7 0 o7, fun q9 => ⟨fun q => bad1 (fun z => by have := z.2.2.1.2; omega) μ7 0 o7, fun q99 => ?_⟩⟩
    have L2 : (∀ c, c < nc → okC A T c) → ∀ (r k : Nat) (μ1 : m_M), k + r = nk → (∀ x y z, x ≠ 11 → μ1 x y z = μ x y z) → (μ1 11 0 0 = 256 * T 0 + T 1 ∧ μ1 11 0 1 = 256 * T 2 + T 3 ∧ μ1 11 0 9 = 0) → (∀ e, e < 8 → μ1 11 3 e = onB A T 3 e ∧ μ1 11 4 e = onB A T 4 e ∧ μ1 11 5 e = onB A T 5 e ∧ μ1 11 6 e = onB A T 6 e ∧ μ1 11 7 e = onB A T 7 e) → (∀ j, j < k → oN (T (4 + 6 * nc + j)) ≤ 20) → (∀ j, j < 3 → μ1 11 8 j = if j < k then oN (T (4 + 6 * nc + j)) else -1) → mW G X YX3_read μ1 164 [some (vR 9 0), some (vR 1 1), some (vI (n : Int)), some (vR t 0), some (vR 11 0), some (vI ((4 + 6 * nc : Nat) : Int)), some (vI ((4 + 6 * nc + nk : Nat) : Int)), some (vI 1), some (vI (k : Int)), none] [] := by
      intro hch r
      induction r with
      | zero =>
        intro k μ1 hk o1 hw hb hk20 hl
        have ek : k = nk := by omega
        subst ek
        have i8 : ∀ c, c < 8 → in8 (μ1 11 7 c) := fun c hc => by
          rw [(hb c hc).2.2.2.2]
          show 0 ≤ (if c < tw_nc A then T (4 + 6 * c + 5) else 0) ∧ (if c < tw_nc A then T (4 + 6 * c + 5) else 0) < 256
          split
          · have := (hT (4 + 6 * c + 5) (by omega)).1; omega
          · omega
        have sy : symB (μ1 11 7) ↔ symB (onB A T 7) := by
          unfold symB
          constructor
          · intro z a ha
            rw [← (hb a ha).2.2.2.2]
            exact ⟨(z a ha).1, fun e he => by rw [← (hb e he).2.2.2.2]; exact (z a ha).2 e he⟩
          · intro z a ha
            rw [(hb a ha).2.2.2.2]
            exact ⟨(z a ha).1, fun e he => by rw [(hb e he).2.2.2.2]; exact (z a ha).2 e he⟩
        refine VX3_read_164 C R ht (by decide) ⟨fun _ => ⟨z1, fun _ => c_sym i8 (fun z => ⟨z1, fun _ => k1 ?_ μ1 o1 ?_⟩) (fun z => ⟨fun _ => k0 (fun y => z (sy.mpr y.2.2.2.2.2)) μ1 o1, z0⟩)⟩, fun q => absurd (by rw [o1 t 0 6 ht11, h6]; omega) q⟩
        · refine ⟨by rw [← hnc, ← hnk]; exact hn, by rw [← hnc, ← hnk]; exact hck, ⟨by omega, by omega⟩, by rw [← hnc]; exact hch, by rw [← hnc, ← hnk]; exact hk20, sy.mp z⟩
        · refine ⟨⟨hw.1, hw.2.1, hw.2.2⟩, fun e he => hb e he, fun j hj => ?_, fun i hi => ?_⟩
          · rw [hl j hj]
            show _ = if j < tw_nk A then oN (T (4 + 6 * tw_nc A + j)) else -1
            rw [← hnc, ← hnk]
          · rw [hw.2.2] at hi; omega
      | succ r ih =>
        intro k μ1 hk o1 hw hb hk20 hl
        have g := hT (4 + 6 * nc + k) (by omega)
        refine VX3_read_164 C R ht (by decide) ⟨fun q => absurd q (by rw [o1 t 0 6 ht11, h6]; omega), fun _ => ⟨z1, fun _ => ?_⟩⟩
        rw [w32_nat (by omega), Int.toNat_natCast, o1 1 1 _ (by decide), g.2]
        refine ⟨⟨by omega, by omega⟩, c_bon g.1 ⟨⟨by omega, by omega⟩, fun μ8 e8 => ?_⟩⟩
        rw [Int.toNat_natCast] at e8
        rw [w32_s (by omega)]
        have o8 : ∀ x y z, x ≠ 11 → μ8 x y z = μ x y z := fun x y z hx => by rw [e8, m_up_ne _ _ (by omega)]; exact o1 x y z hx
        refine ⟨fun q x10 e10 => bad (fun z => ?_) μ8 x10 o8, fun q x12 e12 => ?_⟩
        · have := z.2.2.2.2.1 k (by omega)
          rw [← hnc] at this
          omega
        · subst e12
          refine ih (k + 1) μ8 (by omega) o8 ?_ (fun e he => ?_) (fun j hj => ?_) (fun j hj => ?_)
          · rw [e8, m_up_ne _ _ (by omega), m_up_ne _ _ (by omega), m_up_ne _ _ (by omega)]; exact hw
          · rw [e8, m_up_ne _ _ (by omega), m_up_ne _ _ (by omega), m_up_ne _ _ (by omega), m_up_ne _ _ (by omega), m_up_ne _ _ (by omega)]; exact hb e he
          · by_cases z : j = k
            · subst z; omega
            · exact hk20 j (by omega)
          · by_cases z : j = k
            · subst z; rw [e8, m_up_at, if_pos (by omega)]
            · rw [e8, m_up_ne _ _ (by omega), hl j hj]
              by_cases y : j < k
              · rw [if_pos y, if_pos (by omega)]
              · rw [if_neg y, if_neg (by omega)]
    have L1 : ∀ (r c : Nat) (μ1 : m_M), c + r = nc → (∀ x y z, x ≠ 11 → μ1 x y z = μ x y z) → (μ1 11 0 0 = 256 * T 0 + T 1 ∧ μ1 11 0 1 = 256 * T 2 + T 3 ∧ μ1 11 0 9 = 0) → (∀ e, e < c → okC A T e ∧ μ1 11 3 e = kT T e ∧ μ1 11 4 e = pT T e ∧ μ1 11 5 e = tT T e ∧ μ1 11 6 e = T (4 + 6 * e + 4) ∧ μ1 11 7 e = T (4 + 6 * e + 5)) → (∀ e, c ≤ e → e < 8 → μ1 11 3 e = -1 ∧ μ1 11 4 e = -1 ∧ μ1 11 5 e = -1 ∧ μ1 11 6 e = 0 ∧ μ1 11 7 e = 0) → (∀ j, j < 3 → μ1 11 8 j = -1) → mW G X YX3_read μ1 123 [some (vR 9 0), some (vR 1 1), some (vI (n : Int)), some (vR t 0), some (vR 11 0), some (vI ((4 + 6 * nc : Nat) : Int)), some (vI ((4 + 6 * nc + nk : Nat) : Int)), some (vI 1), some (vI (c : Int)), none] [] := by
      intro r
      induction r with
      | zero =>
        intro c μ1 hc o1 hw hlt hge hl
        have ec : c = nc := by omega
        subst ec
        refine VX3_read_123 C R ht (by decide) ⟨fun _ => ?_, fun q => absurd (by rw [o1 t 0 3 ht11, h3]; omega) q⟩
        refine L2 (fun e he => (hlt e he).1) nk 0 μ1 (by omega) o1 hw (fun e he => ?_) (fun j hj => by omega) (fun j hj => by rw [if_neg (by omega)]; exact hl j hj)
        show μ1 11 3 e = (if e < tw_nc A then kT T e else -1) ∧ μ1 11 4 e = (if e < tw_nc A then pT T e else -1) ∧ μ1 11 5 e = (if e < tw_nc A then tT T e else -1) ∧ μ1 11 6 e = (if e < tw_nc A then T (4 + 6 * e + 4) else 0) ∧ μ1 11 7 e = (if e < tw_nc A then T (4 + 6 * e + 5) else 0)
        rw [← hnc]
        by_cases y : e < c
        · simp only [if_pos y]; exact (hlt e y).2
        · simp only [if_neg y]; exact hge e (by omega) he
      | succ r ih =>
        intro c μ1 hc o1 hw hlt hge hl
        refine VX3_read_123 C R ht (by decide) ⟨fun q => absurd q (by rw [o1 t 0 3 ht11, h3]; omega), fun _ => ⟨z1, fun _ => ?_⟩⟩
        rw [w32_le (z := (c : Int) * 6) (by omega) (by omega), w32_le (by omega) (by omega), show 4 + (c : Int) * 6 = ((4 + 6 * c : Nat) : Int) by omega]
        refine c_rdC (n := n) hA ht (by rw [o1 t 0 6 ht11, h6, hnk]) (fun k hk => by rw [o1 t 6 k ht11]; exact hro k hk) (fun i hi => by rw [o1 1 1 i (by decide)]; exact hT i hi) (by omega) (by omega) hn2 (fun e he => ⟨(hlt e he).2.1, (hlt e he).2.2.1⟩) (fun e h1 h2 => (hge e h1 h2).1) (fun ok μ2 f2 v3 v4 v5 v6 v7 x6 e6 => ?_) (fun ok μ2 f2 x6 e6 => ?_)
        · rw [w32_s (by omega)] at e6
          subst e6
          refine ih (c + 1) μ2 (by omega) (fun x y z hx => (f2 x y z (by omega)).trans (o1 x y z hx)) ?_ (fun e he => ?_) (fun e h1 h2 => ?_) (fun j hj => ?_)
          · rw [f2 11 0 0 (by omega), f2 11 0 1 (by omega), f2 11 0 9 (by omega)]; exact hw
          · by_cases z : e = c
            · subst z; exact ⟨ok, v3, v4, v5, v6, v7⟩
            · rw [f2 11 3 e (by omega), f2 11 4 e (by omega), f2 11 5 e (by omega), f2 11 6 e (by omega), f2 11 7 e (by omega)]; exact hlt e (by omega)
          · rw [f2 11 3 e (by omega), f2 11 4 e (by omega), f2 11 5 e (by omega), f2 11 6 e (by omega), f2 11 7 e (by omega)]; exact hge e (by omega) h2
          · rw [f2 11 8 j (by omega)]; exact hl j hj
        · exact bad1 (fun z => ok (z.2.2.2.1 c (by omega))) μ2 x6 (fun x y z hx => (f2 x y z hx).trans (o1 x y z hx))
    have bn := b5
    refine L1 nc 0 μ7 (by omega) o7 ⟨v0, v1, ?_⟩ (fun e he => by omega) (fun e _ he => ?_) (fun j hj => ?_)
    · rw [f7 11 0 9 (by omega)]; exact bn.1.2.2
    · rw [f7 11 3 e (by omega), f7 11 4 e (by omega), f7 11 5 e (by omega), f7 11 6 e (by omega), f7 11 7 e (by omega)]
      exact bn.2.1 e he
    · rw [f7 11 8 j (by omega)]; exact bn.2.2.1 j hj
  · rw [if_neg hck]
    exact ⟨z0, fun _ => k0 (fun z => hck (by have := z.2.1; rw [← hnc, ← hnk] at this; exact this)) μ (fun _ _ _ _ => rfl)⟩
end ON2
