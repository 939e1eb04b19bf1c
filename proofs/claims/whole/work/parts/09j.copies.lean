/-! ===== copies, a fresh bench, the acts that can be undone ===== -/
/-- all objects but o are as they were -/
def ofx (o : Nat) (μ μ1 : m_M) : Prop := ∀ a b c, a ≠ o → μ1 a b c = μ a b c
theorem ofx.up {o : Nat} {μ : m_M} {b c : Nat} {v : Int} : ofx o μ (m_up μ o b c v) := fun a b' c' ha => m_up_ne _ _ (fun z => ha z.1)
theorem ofx.tr {o : Nat} {μ μ1 μ2 : m_M} (h : ofx o μ μ1) (h2 : ofx o μ1 μ2) : ofx o μ μ2 := fun a b c ha => (h2 a b c ha).trans (h a b c ha)
theorem ofx.cp {o p : Nat} {μ : m_M} {w x y w2 n : Nat} : ofx o μ (m_cp μ p w x o w2 y n) := fun a b c ha => by unfold m_cp; rw [if_neg (fun z => ha z.1)]
theorem ofx.fl {o : Nat} {μ : m_M} {w n : Nat} {v : Int} : ofx o μ (m_fl μ o w n v) := fun a b c ha => by unfold m_fl; rw [if_neg (fun z => ha z.1)]
theorem cp_in {μ : m_M} {p w o w2 n c : Nat} (hc : c < n) : m_cp μ p w 0 o w2 0 n o w2 c = μ p w c := by unfold m_cp; rw [if_pos ⟨rfl, rfl, by omega, by omega⟩]; rw [Nat.sub_zero, Nat.zero_add]
theorem cp_ne {μ : m_M} {p w o w2 n a b c : Nat} (hb : ¬ (a = o ∧ b = w2)) : m_cp μ p w 0 o w2 0 n a b c = μ a b c := by unfold m_cp; rw [if_neg (fun z => hb ⟨z.1, z.2.1⟩)]
set_option maxRecDepth 20000 in
theorem c_copyFrom {G : m_G} {d o p : Nat} {A : m_T} (ho : m_cls o = 0) (hp : m_cls p = 0) (hop : p ≠ o) {μ : m_M} (hB : BI A (μ p)) {K : m_M → Prop} (h : ∀ μ1, ofx o μ μ1 → beq (μ1 o) (μ p) → K μ1) : c_v G (d + 1) YX0_copyFrom [vR o 0, vR p 0] μ K := by
  have hf := hB.2.2.1
  have hf8 : (m_cnt (fun c => μ p 5 c != -1) 0 8 : Int) ≤ 8 := by have := m_cnt_le (fun c => μ p 5 c != -1) 8 0; omega
  refine EX0_copyFrom ho hp (fun μ1 e1 μ2 e2 μ3 e3 μ4 e4 μ5 e5 μ6 e6 μ7 e7 μ8 e8 μ9 e9 => ?_)
  have f1 : ofx o μ μ1 := by rw [e1]; exact ofx.up
  have f2 : ofx o μ μ2 := by rw [e2]; exact f1.tr ofx.up
  have f3 : ofx o μ μ3 := by rw [e3]; exact f2.tr ofx.up
  have f4 : ofx o μ μ4 := by rw [e4]; exact f3.tr ofx.cp
  have f5 : ofx o μ μ5 := by rw [e5]; exact f4.tr ofx.cp
  have f6 : ofx o μ μ6 := by rw [e6]; exact f5.tr ofx.cp
  have f7 : ofx o μ μ7 := by rw [e7]; exact f6.tr ofx.cp
  have f8 : ofx o μ μ8 := by rw [e8]; exact f7.tr ofx.cp
  have f9 : ofx o μ μ9 := by rw [e9]; exact f8.tr ofx.cp
  have c9 : ∀ i, μ9 o 0 i = μ3 o 0 i := fun i => by rw [e9, cp_ne (by omega), e8, cp_ne (by omega), e7, cp_ne (by omega), e6, cp_ne (by omega), e5, cp_ne (by omega), e4, cp_ne (by omega)]
  have c90 : μ9 o 0 9 = μ p 0 9 := by rw [c9, e3, m_up_at]; exact f2 p 0 9 hop
  rw [c90, w32_le (by omega) (by omega)]
  refine ⟨⟨by omega, by omega, by omega, by omega, by omega⟩, fun μ10 e10 => ?_⟩
  refine h μ10 (by rw [e10]; exact f9.tr ofx.cp) ?_
  have g : ∀ b c, b ≠ 9 → μ10 o b c = μ9 o b c := fun b c hb => by rw [e10, cp_ne (fun z => hb z.2)]
  refine ⟨⟨?_, ?_, ?_⟩, fun c hc => ⟨?_, ?_, ?_, ?_, ?_⟩, fun k hk => ?_, fun i hi => ?_⟩
  · rw [g 0 0 (by decide), c9, e3, m_up_ne _ _ (by omega), e2, m_up_ne _ _ (by omega), e1, m_up_at]
  · rw [g 0 1 (by decide), c9, e3, m_up_ne _ _ (by omega), e2, m_up_at]; exact f1 p 0 1 hop
  · rw [g 0 9 (by decide), c90]
  · rw [g 3 c (by decide), e9, cp_ne (by omega), e8, cp_ne (by omega), e7, cp_ne (by omega), e6, cp_ne (by omega), e5, cp_ne (by omega), e4, cp_in hc]; exact f3 p 3 c hop
  · rw [g 4 c (by decide), e9, cp_ne (by omega), e8, cp_ne (by omega), e7, cp_ne (by omega), e6, cp_ne (by omega), e5, cp_in hc]; exact f4 p 4 c hop
  · rw [g 5 c (by decide), e9, cp_ne (by omega), e8, cp_ne (by omega), e7, cp_ne (by omega), e6, cp_in hc]; exact f5 p 5 c hop
  · rw [g 6 c (by decide), e9, cp_ne (by omega), e8, cp_ne (by omega), e7, cp_in hc]; exact f6 p 6 c hop
  · rw [g 7 c (by decide), e9, cp_ne (by omega), e8, cp_in hc]; exact f7 p 7 c hop
  · rw [g 8 k (by decide), e9, cp_in hk]; exact f8 p 8 k hop
  · rw [g 0 9 (by decide), c90] at hi
    rw [e10, cp_in (by omega)]; exact f9 p 9 i hop
def p_new (A : m_T) : Nat → Nat → Int := fun k i => if k = 0 then (if i = 1 then tw_stock A else 0) else if k = 3 ∨ k = 4 ∨ k = 5 ∨ k = 8 then -1 else 0
theorem BI.new {A : m_T} (hA : TA A) : BI A (p_new A) := by
  have hs := hA.2.2.2.2.1
  refine ⟨⟨Int.le_refl _, by show (0 : Int) ≤ 999; omega⟩, ⟨hs.1, by show tw_stock A ≤ 9999; omega⟩, ⟨Int.le_refl _, by show (0 : Int) ≤ _; omega⟩, fun k _ => ⟨⟨Int.le_refl _, by show (-1 : Int) ≤ 20; omega⟩, fun _ => rfl⟩, fun c _ => Or.inl ⟨rfl, rfl, rfl, Or.inl ⟨rfl, rfl⟩⟩, fun c e _ _ _ _ q => absurd rfl q⟩
theorem fl_in {μ : m_M} {o w n c : Nat} {v : Int} (hc : c < n) : m_fl μ o w n v o w c = v := by unfold m_fl; rw [if_pos ⟨rfl, rfl, hc⟩]
theorem fl_ne {μ : m_M} {o w n a b c : Nat} {v : Int} (hb : ¬ (a = o ∧ b = w)) : m_fl μ o w n v a b c = μ a b c := by unfold m_fl; rw [if_neg (fun z => hb ⟨z.1, z.2.1⟩)]
theorem ar_bench {o : Nat} (ho : m_cls o = 0) (k : Nat) : m_ar o k = m_arC 0 k := by unfold m_ar; rw [ho]
set_option maxRecDepth 20000 in
theorem c_begin {G : m_G} {d o t : Nat} {A : m_T} (ho : m_cls o = 0) (ht : m_cls t = 9) {μ : m_M} (hs : μ t 0 7 = tw_stock A) {K : m_M → Prop} (h : ∀ μ1, ofx o μ μ1 → beq (μ1 o) (p_new A) → K μ1) : c_v G (d + 2) YX0_begin [vR o 0, vR t 0] μ K := by
  have hot : t ≠ o := cls_ne ht ho (by decide)
  refine EX0_begin ho ht (fun μ1 e1 μ2 e2 μ3 e3 => ?_)
  rw [e1, m_up_ne _ _ (fun z => hot z.1), hs] at e2
  refine c_fill (n := 8) (ar_bench ho 3) (by decide) (by decide) (c_fill (n := 8) (ar_bench ho 4) (by decide) (by decide) (c_fill (n := 8) (ar_bench ho 5) (by decide) (by decide) (c_fill (n := 8) (ar_bench ho 6) (by decide) (by decide) (c_fill (n := 8) (ar_bench ho 7) (by decide) (by decide) (c_fill (n := 3) (ar_bench ho 8) (by decide) (by decide) ?_)))))
  refine h _ ?_ ⟨⟨?_, ?_, ?_⟩, fun c hc => ⟨?_, ?_, ?_, ?_, ?_⟩, fun k hk => ?_, fun i hi => ?_⟩
  · rw [e3, e2]
    exact (((((((ofx.up.tr ofx.up).tr ofx.up).tr ofx.fl).tr ofx.fl).tr ofx.fl).tr ofx.fl).tr ofx.fl).tr ofx.fl
  · rw [fl_ne (by omega), fl_ne (by omega), fl_ne (by omega), fl_ne (by omega), fl_ne (by omega), fl_ne (by omega), e3, m_up_ne _ _ (by omega), e2, m_up_ne _ _ (by omega), m_up_at]; rfl
  · rw [fl_ne (by omega), fl_ne (by omega), fl_ne (by omega), fl_ne (by omega), fl_ne (by omega), fl_ne (by omega), e3, m_up_ne _ _ (by omega), e2, m_up_at]; rfl
  · rw [fl_ne (by omega), fl_ne (by omega), fl_ne (by omega), fl_ne (by omega), fl_ne (by omega), fl_ne (by omega), e3, m_up_at]; rfl
  · rw [fl_ne (by omega), fl_ne (by omega), fl_ne (by omega), fl_ne (by omega), fl_ne (by omega), fl_in hc]; rfl
  · rw [fl_ne (by omega), fl_ne (by omega), fl_ne (by omega), fl_ne (by omega), fl_in hc]; rfl
  · rw [fl_ne (by omega), fl_ne (by omega), fl_ne (by omega), fl_in hc]; rfl
  · rw [fl_ne (by omega), fl_ne (by omega), fl_in hc]; rfl
  · rw [fl_ne (by omega), fl_in hc]; rfl
  · rw [fl_in hk]; rfl
  · rw [fl_ne (by omega), fl_ne (by omega), fl_ne (by omega), fl_ne (by omega), fl_ne (by omega), fl_ne (by omega), e3, m_up_at] at hi
    omega
theorem w_160 {v i : Nat} (hv : v ≤ 21) (hi : i ≤ 160) : w32 (w32 (160 * (v : Int)) + (i : Int)) = ((160 * v + i : Nat) : Int) := by rw [w32_le (z := 160 * (v : Int)) (by omega) (by omega), w32_le (by omega) (by omega)]; omega
set_option maxRecDepth 20000 in
theorem cm_copies {G : m_G} {d x y : Nat} (hx : x < 22) (hy : y < 22) (hxy : x ≠ y) {μ : m_M} (hf : 0 ≤ μ 34 51 y ∧ μ 34 51 y ≤ 8) {K : m_M → Prop} (h : ∀ μ1, ofL x μ μ1 → (∀ b c, b < 43 ∨ 52 < b → μ1 34 b c = μ 34 b c) → μ1 34 49 x = μ 34 49 y → beq (mB (μ1 34) x) (mB (μ 34) y) → K μ1) : c_v G (d + 1) YX12_copies [vR 34 0, vI (x : Int), vI (y : Int)] μ K := by
  obtain ⟨f, hf1⟩ : ∃ f : Nat, μ 34 51 y = (f : Int) := ⟨(μ 34 51 y).toNat, by omega⟩
  refine EX12_copies (fun X C R => ?_)
  rw [Int.toNat_natCast, Int.toNat_natCast]
  refine ⟨⟨by omega, by omega⟩, ⟨by omega, by omega⟩, fun μ1 e1 => ⟨⟨by omega, by omega⟩, ⟨by omega, by omega⟩, fun μ2 e2 => ⟨⟨by omega, by omega⟩, ⟨by omega, by omega⟩, fun μ3 e3 => ?_⟩⟩⟩
  rw [e1, m_up_ne _ _ (by omega)] at e2
  rw [e2, m_up_ne _ _ (by omega), m_up_ne _ _ (by omega)] at e3
  -- what is done so far: b43 to b49 as wholes
  have fin : ∀ μ6 : m_M, (∀ a b c, ¬ (a = 34 ∧ ((b = 43 ∨ b = 44 ∨ b = 49 ∨ b = 51) ∧ c = x ∨ (45 ≤ b ∧ b ≤ 48) ∧ c / 8 = x ∨ b = 50 ∧ c / 3 = x ∨ b = 52 ∧ c / 160 = x)) → μ6 a b c = μ a b c) → μ6 34 43 x = μ 34 43 y → μ6 34 44 x = μ 34 44 y → μ6 34 49 x = μ 34 49 y → μ6 34 51 x = (f : Int) → (∀ b c, 45 ≤ b → b ≤ 48 → c < 8 → μ6 34 b (8 * x + c) = μ 34 b (8 * y + c)) → (∀ c, c < 3 → μ6 34 50 (3 * x + c) = μ 34 50 (3 * y + c)) → (∀ c, c < 4 * f → μ6 34 52 (160 * x + c) = μ 34 52 (160 * y + c)) → K μ6 := by
    intro μ6 g0 g43 g44 g49 g51 g45 g50 g52
    refine h μ6 (fun a b c hn => g0 a b c (fun z => hn ⟨z.1, by omega⟩)) (fun b c hb => g0 34 b c (by omega)) g49 ⟨⟨g43, g44, ?_⟩, fun c hc => ⟨g45 45 c (by decide) (by decide) hc, g45 46 c (by decide) (by decide) hc, g45 47 c (by decide) (by decide) hc, ?_, g45 48 c (by decide) (by decide) hc⟩, fun k hk => g50 k hk, fun i hi => g52 i ?_⟩
    · rw [mB09, mB09, g51, hf1]
    · rw [mB6, mB6, g49]
    · rw [mB09, g51] at hi; omega
  have L3 : ∀ (r i : Nat) (μ6 : m_M), i + r = 4 * f → (∀ a b c, ¬ (a = 34 ∧ ((b = 43 ∨ b = 44 ∨ b = 49 ∨ b = 51) ∧ c = x ∨ (45 ≤ b ∧ b ≤ 48) ∧ c / 8 = x ∨ b = 50 ∧ c / 3 = x ∨ b = 52 ∧ c / 160 = x)) → μ6 a b c = μ a b c) → μ6 34 43 x = μ 34 43 y → μ6 34 44 x = μ 34 44 y → μ6 34 49 x = μ 34 49 y → μ6 34 51 x = (f : Int) → (∀ b c, 45 ≤ b → b ≤ 48 → c < 8 → μ6 34 b (8 * x + c) = μ 34 b (8 * y + c)) → (∀ c, c < 3 → μ6 34 50 (3 * x + c) = μ 34 50 (3 * y + c)) → (∀ c, c < i → μ6 34 52 (160 * x + c) = μ 34 52 (160 * y + c)) → mW G X YX12_copies μ6 185 [some (vR 34 0), some (vI (x : Int)), some (vI (y : Int)), some (vI (i : Int))] [] := by
    intro r
    induction r with
    | zero =>
      intro i μ6 hi g0 g43 g44 g49 g51 g45 g50 g52
      refine VX12_copies_185 C R ?_
      simp only [Int.toNat_natCast]
      rw [g0 34 51 y (by omega), hf1, w32_le (by omega) (by omega)]
      exact ⟨⟨by omega, by omega⟩, fun _ => fin μ6 g0 g43 g44 g49 g51 g45 g50 (fun c hc => g52 c (by omega)), fun q => absurd (by omega) q⟩
    | succ r ih =>
      intro i μ6 hi g0 g43 g44 g49 g51 g45 g50 g52
      refine VX12_copies_185 C R ?_
      simp only [Int.toNat_natCast]
      rw [g0 34 51 y (by omega), hf1, w32_le (z := 4 * (f : Int)) (by omega) (by omega), w_160 (by omega) (by omega), w_160 (by omega) (by omega)]
      simp only [Int.toNat_natCast]
      refine ⟨⟨by omega, by omega⟩, fun q => absurd q (by omega), fun _ => ⟨⟨by omega, by omega⟩, ⟨by omega, by omega⟩, fun μ7 e7 z e => ?_⟩⟩
      rw [w32_s (by omega)] at e
      subst e
      rw [g0 34 52 _ (by omega)] at e7
      have k : ∀ a b c, ¬ (a = 34 ∧ b = 52 ∧ c = 160 * x + i) → μ7 a b c = μ6 a b c := fun a b c q => by rw [e7, m_up_ne _ _ q]
      refine ih (i + 1) μ7 (by omega) (fun a b c q => (k a b c (by omega)).trans (g0 a b c q)) ((k _ _ _ (by omega)).trans g43) ((k _ _ _ (by omega)).trans g44) ((k _ _ _ (by omega)).trans g49) ((k _ _ _ (by omega)).trans g51) (fun b c q1 q2 q3 => (k _ _ _ (by omega)).trans (g45 b c q1 q2 q3)) (fun c q => (k _ _ _ (by omega)).trans (g50 c q)) (fun c q => ?_)
      by_cases e : c = i
      · rw [e, e7, m_up_at]
      · rw [k _ _ _ (by omega)]; exact g52 c (by omega)
  have L2 : ∀ (r i : Nat) (μ6 : m_M), i + r = 3 → (∀ a b c, ¬ (a = 34 ∧ ((b = 43 ∨ b = 44 ∨ b = 49) ∧ c = x ∨ (45 ≤ b ∧ b ≤ 48) ∧ c / 8 = x ∨ b = 50 ∧ c / 3 = x)) → μ6 a b c = μ a b c) → μ6 34 43 x = μ 34 43 y → μ6 34 44 x = μ 34 44 y → μ6 34 49 x = μ 34 49 y → (∀ b c, 45 ≤ b → b ≤ 48 → c < 8 → μ6 34 b (8 * x + c) = μ 34 b (8 * y + c)) → (∀ c, c < i → μ6 34 50 (3 * x + c) = μ 34 50 (3 * y + c)) → mW G X YX12_copies μ6 140 [some (vR 34 0), some (vI (x : Int)), some (vI (y : Int)), some (vI (i : Int))] [] := by
    intro r
    induction r with
    | zero =>
      intro i μ6 hi g0 g43 g44 g49 g45 g50
      refine VX12_copies_140 C R ?_
      simp only [Int.toNat_natCast]
      refine ⟨fun _ => ⟨⟨by omega, by omega⟩, ⟨by omega, by omega⟩, fun μ7 e7 => ?_⟩, fun q => absurd (by omega) q⟩
      rw [g0 34 51 y (by omega), hf1] at e7
      have k : ∀ a b c, ¬ (a = 34 ∧ b = 51 ∧ c = x) → μ7 a b c = μ6 a b c := fun a b c q => by rw [e7, m_up_ne _ _ q]
      exact L3 (4 * f) 0 μ7 (by omega) (fun a b c q => (k a b c (by omega)).trans (g0 a b c (by omega))) ((k _ _ _ (by omega)).trans g43) ((k _ _ _ (by omega)).trans g44) ((k _ _ _ (by omega)).trans g49) (by rw [e7, m_up_at]) (fun b c q1 q2 q3 => (k _ _ _ (by omega)).trans (g45 b c q1 q2 q3)) (fun c q => (k _ _ _ (by omega)).trans (g50 c (by omega))) (fun c q => by omega)
    | succ r ih =>
      intro i μ6 hi g0 g43 g44 g49 g45 g50
      refine VX12_copies_140 C R ?_
      rw [w_3b (by omega) (by omega), w_3b (by omega) (by omega)]
      simp only [Int.toNat_natCast]
      refine ⟨fun q => absurd q (by omega), fun _ => ⟨⟨by omega, by omega⟩, ⟨by omega, by omega⟩, fun μ7 e7 z e => ?_⟩⟩
      rw [w32_s (by omega)] at e
      subst e
      rw [g0 34 50 _ (by omega)] at e7
      have k : ∀ a b c, ¬ (a = 34 ∧ b = 50 ∧ c = 3 * x + i) → μ7 a b c = μ6 a b c := fun a b c q => by rw [e7, m_up_ne _ _ q]
      refine ih (i + 1) μ7 (by omega) (fun a b c q => (k a b c (by omega)).trans (g0 a b c q)) ((k _ _ _ (by omega)).trans g43) ((k _ _ _ (by omega)).trans g44) ((k _ _ _ (by omega)).trans g49) (fun b c q1 q2 q3 => (k _ _ _ (by omega)).trans (g45 b c q1 q2 q3)) (fun c q => ?_)
      by_cases e : c = i
      · rw [e, e7, m_up_at]
      · rw [k _ _ _ (by omega)]; exact g50 c (by omega)
  have L1 : ∀ (r i : Nat) (μ6 : m_M), i + r = 8 → (∀ a b c, ¬ (a = 34 ∧ ((b = 43 ∨ b = 44 ∨ b = 49) ∧ c = x ∨ (45 ≤ b ∧ b ≤ 48) ∧ c / 8 = x)) → μ6 a b c = μ a b c) → μ6 34 43 x = μ 34 43 y → μ6 34 44 x = μ 34 44 y → μ6 34 49 x = μ 34 49 y → (∀ b c, 45 ≤ b → b ≤ 48 → c < i → μ6 34 b (8 * x + c) = μ 34 b (8 * y + c)) → mW G X YX12_copies μ6 38 [some (vR 34 0), some (vI (x : Int)), some (vI (y : Int)), some (vI (i : Int))] [] := by
    intro r
    induction r with
    | zero =>
      intro i μ6 hi g0 g43 g44 g49 g45
      refine VX12_copies_38 C R ⟨fun _ => L2 3 0 μ6 (by omega) (fun a b c q => g0 a b c (by omega)) g43 g44 g49 (fun b c q1 q2 q3 => g45 b c q1 q2 (by omega)) (fun c q => by omega), fun q => absurd (by omega) q⟩
    | succ r ih =>
      intro i μ6 hi g0 g43 g44 g49 g45
      refine VX12_copies_38 C R ?_
      rw [w_8b (by omega) (by omega), w_8b (by omega) (by omega)]
      simp only [Int.toNat_natCast]
      refine ⟨fun q => absurd q (by omega), fun _ => ⟨⟨by omega, by omega⟩, ⟨by omega, by omega⟩, fun μ7 e7 => ⟨⟨by omega, by omega⟩, ⟨by omega, by omega⟩, fun μ8 e8 => ⟨⟨by omega, by omega⟩, ⟨by omega, by omega⟩, fun μ9 e9 => ⟨⟨by omega, by omega⟩, ⟨by omega, by omega⟩, fun μ10 e10 z e => ?_⟩⟩⟩⟩⟩
      rw [w32_s (by omega)] at e
      subst e
      rw [g0 34 45 _ (by omega)] at e7
      have k7 : ∀ a b c, ¬ (a = 34 ∧ b = 45 ∧ c = 8 * x + i) → μ7 a b c = μ6 a b c := fun a b c q => by rw [e7, m_up_ne _ _ q]
      rw [k7 34 46 _ (by omega), g0 34 46 _ (by omega)] at e8
      have k8 : ∀ a b c, ¬ (a = 34 ∧ b = 46 ∧ c = 8 * x + i) → μ8 a b c = μ7 a b c := fun a b c q => by rw [e8, m_up_ne _ _ q]
      rw [k8 34 47 _ (by omega), k7 34 47 _ (by omega), g0 34 47 _ (by omega)] at e9
      have k9 : ∀ a b c, ¬ (a = 34 ∧ b = 47 ∧ c = 8 * x + i) → μ9 a b c = μ8 a b c := fun a b c q => by rw [e9, m_up_ne _ _ q]
      rw [k9 34 48 _ (by omega), k8 34 48 _ (by omega), k7 34 48 _ (by omega), g0 34 48 _ (by omega)] at e10
      have k10 : ∀ a b c, ¬ (a = 34 ∧ b = 48 ∧ c = 8 * x + i) → μ10 a b c = μ9 a b c := fun a b c q => by rw [e10, m_up_ne _ _ q]
      have k : ∀ a b c, ¬ (a = 34 ∧ (45 ≤ b ∧ b ≤ 48) ∧ c = 8 * x + i) → μ10 a b c = μ6 a b c := fun a b c q => by rw [k10 a b c (by omega), k9 a b c (by omega), k8 a b c (by omega), k7 a b c (by omega)]
      refine ih (i + 1) μ10 (by omega) (fun a b c q => (k a b c (by omega)).trans (g0 a b c q)) ((k _ _ _ (by omega)).trans g43) ((k _ _ _ (by omega)).trans g44) ((k _ _ _ (by omega)).trans g49) (fun b c q1 q2 q => ?_)
      by_cases e : c = i
      · subst e
        rcases (show b = 45 ∨ b = 46 ∨ b = 47 ∨ b = 48 by omega) with e | e | e | e <;> subst e
        · rw [k10 _ _ _ (by omega), k9 _ _ _ (by omega), k8 _ _ _ (by omega), e7, m_up_at]
        · rw [k10 _ _ _ (by omega), k9 _ _ _ (by omega), e8, m_up_at]
        · rw [k10 _ _ _ (by omega), e9, m_up_at]
        · rw [e10, m_up_at]
      · rw [k _ _ _ (by omega)]; exact g45 b c q1 q2 (by omega)
  refine L1 8 0 μ3 (by omega) (fun a b c q => ?_) ?_ ?_ ?_ (fun b c q1 q2 q3 => by omega)
  · rw [e3, m_up_ne _ _ (by omega), m_up_ne _ _ (by omega), m_up_ne _ _ (by omega)]
  · rw [e3, m_up_ne _ _ (by omega), m_up_ne _ _ (by omega), m_up_at]
  · rw [e3, m_up_ne _ _ (by omega), m_up_at]
  · rw [e3, m_up_at]
