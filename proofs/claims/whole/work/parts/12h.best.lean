/-! ===== best ===== -/
theorem PO.heat {A : m_T} {B : Nat → Nat → Int} {kn rm : Nat} {w : Int} {h : Int} (hh : 0 ≤ h) {x x' : Int × Int × Int × (Nat → Int)} (h0 : x.1 = -1 → x.2.1 = -1) (hxb : x.2.2.1 = x.2.1) (hb : BS A B kn rm w (fun heat => 0 ≤ heat ∧ heat < h) x.1 x.2.1 x.2.2.2) (po : PO A w h rm (fun row' => isArr B kn rm row' ∧ rowOK A w h rm row') x x') : BS A B kn rm w (fun heat => 0 ≤ heat ∧ heat < h + 1) x'.1 x'.2.1 x'.2.2.2 ∧ (x'.1 = -1 → x'.2.1 = -1) := by
  rcases po with ⟨a, a1, a2, -, a4⟩ | ⟨row, b, b1, b2, b3, -, b5, b6⟩
  · rw [hxb] at a
    refine ⟨?_, fun z => by rw [a2]; exact h0 (by rw [← a1]; exact z)⟩
    rcases hb with ⟨c, c1⟩ | ⟨e, e0, e1, e2, e3, e4⟩
    · refine Or.inl ⟨a1.trans c, fun heat row' hr ha hok => ?_⟩
      by_cases y : heat = h
      · subst y
        have := a row' ⟨ha, hok⟩
        have := rowSum_0 A w heat row' rm
        have := h0 c
        omega
      · exact c1 heat row' ⟨hr.1, by omega⟩ ha hok
    · rw [a1, a2]
      refine Or.inr ⟨⟨e.1, by omega⟩, e0, e1.congr (fun p hp => a4 p hp), e2.congr (fun p hp => a4 p hp), by rw [rowSum_congr rm a4]; exact e3, fun heat row' hr ha hok => ?_⟩
      by_cases y : heat = h
      · subst y
        have := a row' ⟨ha, hok⟩
        by_cases z : rowSum A w heat row' rm < x.2.1
        · exact Or.inl z
        · exact Or.inr ⟨by omega, Or.inl e.2⟩
      · rcases e4 heat row' ⟨hr.1, by omega⟩ ha hok with z | ⟨z, z' | ⟨z', z''⟩⟩
        · exact Or.inl z
        · exact Or.inr ⟨z, Or.inl z'⟩
        · exact Or.inr ⟨z, Or.inr ⟨z', z''.congr (fun p hp => a4 p hp) (fun _ _ => rfl)⟩⟩
  · rw [hxb] at b5
    refine ⟨?_, fun z => by omega⟩
    rw [b2, b3]
    refine Or.inr ⟨⟨hh, by omega⟩, hh, b.1.congr b1, b.2.congr b1, rowSum_congr rm b1, fun heat row' hr ha hok => ?_⟩
    by_cases y : heat = h
    · subst y
      rcases b6 row' ⟨ha, hok⟩ with z | ⟨z, z'⟩
      · exact Or.inl z
      · exact Or.inr ⟨z, Or.inr ⟨rfl, z'.congr b1 (fun _ _ => rfl)⟩⟩
    · rcases hb with ⟨c, c1⟩ | ⟨e, e0, e1, e2, e3, e4⟩
      · exact absurd hok (c1 heat row' ⟨hr.1, by omega⟩ ha)
      · have := e4 heat row' ⟨hr.1, by omega⟩ ha hok
        exact Or.inl (by rcases this with z | ⟨z, -⟩ <;> omega)
theorem PO.bt_in {A : m_T} {w h : Int} {rm : Nat} {S : (Nat → Int) → Prop} {x x' : Int × Int × Int × (Nat → Int)} (hx : x.2.2.1 = x.2.1) (po : PO A w h rm S x x') : x'.2.2.1 = x'.2.1 := by
  rcases po with ⟨-, -, a, b, -⟩ | ⟨row, -, -, -, a, b, -⟩
  · rw [a, b]; exact hx
  · rw [a, b]
theorem PO.ge {A : m_T} {w h : Int} {rm : Nat} {S : (Nat → Int) → Prop} {x x' : Int × Int × Int × (Nat → Int)} (po : PO A w h rm S x x') (hx : -1 ≤ x.2.1) : -1 ≤ x'.2.1 := by
  rcases po with ⟨-, -, a, -, -⟩ | ⟨row, -, -, -, a, -, -⟩
  · rw [a]; exact hx
  · rw [a]
    have := rowSum_0 A w h row rm
    omega
section FB
variable {G : m_G} {a1 a2 : Int}
theorem mo_first {d : Nat} {μ : m_M} {A : m_T} {t s b kn rm : Nat} (h : RA μ A t s b) (hkn : kn < tw_nk A) (hroom : tw_room A kn = (rm : Int)) (h6 : rm ≤ 6) {K : m_M → Prop} (k : ∀ μ1, of59 μ μ1 → isArr (μ 10) kn rm (μ1 34 59) → (∀ q, q + 1 < rm → μ1 34 59 q ≤ μ1 34 59 (q + 1)) → K μ1) : c_v G (d + 2) YX12_firstRow [vR 34 0, vI (kn : Int), vI (rm : Int)] μ K := by
  have hM := h.1.2.1
  have hb := hM.2.1
  have hA := h.1.1.2.2.2.1
  have hB := h.2.1.1
  have h8 := hA.1
  obtain ⟨g, hg⟩ : ∃ g : Nat → Bool, ∀ c, g c = (μ 34 45 (8 * 0 + c) == (kn : Int)) := ⟨_, fun _ => rfl⟩
  have hgf : (fun c => μ 34 45 (8 * 0 + c) == (kn : Int)) = g := by funext c; exact (hg c).symm
  have gk : ∀ c, c < 8 → (g c = true ↔ μ 10 3 c = (kn : Int)) := fun c hc => by
    rw [hg, Nat.mul_zero, Nat.zero_add, (h.2.1.c hc).1]
    simp
  have hfull := h.2.1.cnt hA kn
  rw [hgf] at hfull
  obtain ⟨f, hf⟩ : ∃ f, f = b_cnt (μ 10) kn := ⟨_, rfl⟩
  rw [← hf] at hfull
  have hfr : f ≤ rm := by
    have := (who_arr hB hroom).fit (p := 0) (by omega)
    have e : m_cnt (wf (μ 10) kn (fun p => b_who (μ 10) kn p) 0) 0 8 = f := by
      rw [hf]
      refine m_cnt_congr 8 0 (fun j _ _ => ?_)
      rw [wf_inK]
      unfold inK
      by_cases y : μ 10 3 j = (kn : Int)
      · rw [bl_t y]; simp [y]
      · rw [bl_f y]; simp [y]
    omega
  have step : ∀ c, m_cnt g 0 (c + 1) = m_cnt g 0 c + (if g c then 1 else 0) := fun c => by
    have := m_cnt_add g c 1 0
    rw [this, Nat.zero_add]
    rfl
  refine EX12_firstRow (fun X C R => cm_full (v := 0) hM (by decide) ?_)
  rw [hgf, hfull]
  have L2 : ∀ (r c n : Nat) (μ1 : m_M), c + r = tw_nc A → of59 μ μ1 → n = rm - f + m_cnt g 0 c → (∀ q, q < rm - f → μ1 34 59 q = -1) → (∀ q, rm - f ≤ q → q < n → ∃ e : Nat, e < c ∧ μ1 34 59 q = (e : Int) ∧ g e = true) → (∀ q, rm - f ≤ q → q + 1 < n → μ1 34 59 q < μ1 34 59 (q + 1)) → (∀ e, e < c → g e = true → ∃ q, rm - f ≤ q ∧ q < n ∧ μ1 34 59 q = (e : Int)) → mW G X YX12_firstRow μ1 35 [some (vR 34 0), some (vI (kn : Int)), some (vI (rm : Int)), some (vI (n : Int)), some (vI (c : Int))] [] := by
    intro r
    induction r with
    | zero =>
      intro c n μ1 hc o1 hn p1 p2 p3 p4
      have h1 := h.fS o1.S
      have ec : c = tw_nc A := by omega
      subst ec
      have hn : n = rm := by omega
      subst hn
      refine VX12_firstRow_35 C R ?_
      rw [h1.1.2.1.1, Int.toNat_natCast, h1.1.2.1.nc]
      refine ⟨⟨by omega, by omega⟩, fun _ => k μ1 o1 ?_ ?_, fun q => absurd (by omega) q⟩
      · have inc : ∀ r p, n - f ≤ p → p + (r + 1) < n → μ1 34 59 p < μ1 34 59 (p + (r + 1)) := by
          intro r
          induction r with
          | zero => intro p h1 h2; exact p3 p h1 h2
          | succ r ih =>
            intro p h1 h2
            have := ih p h1 (by omega)
            have := p3 (p + (r + 1)) (by omega) (by omega)
            rw [show p + (r + 1 + 1) = p + (r + 1) + 1 by omega]
            omega
        refine ⟨fun p hp => ?_, fun e he hk => ?_, fun p q hp hq y ne => ?_⟩
        · by_cases y : p < n - f
          · exact Or.inl (p1 p y)
          · obtain ⟨e, he, y2, y3⟩ := p2 p (by omega) hp
            exact Or.inr ⟨e, by omega, y2, (gk e (by omega)).mp y3⟩
        · obtain ⟨q, -, hq2, hq3⟩ := p4 e (hB.nc e he hk) ((gk e he).mpr hk)
          exact ⟨q, hq2, hq3⟩
        · have hp' : n - f ≤ p := by
            apply Classical.byContradiction
            intro z
            exact ne (p1 p (by omega))
          have hq' : n - f ≤ q := by
            apply Classical.byContradiction
            intro z
            rw [y] at ne
            exact ne (p1 q (by omega))
          apply Classical.byContradiction
          intro hne
          by_cases z : p < q
          · have := inc (q - p - 1) p hp' (by omega)
            rw [show p + (q - p - 1 + 1) = q by omega] at this
            omega
          · have := inc (p - q - 1) q hq' (by omega)
            rw [show q + (p - q - 1 + 1) = p by omega] at this
            omega
      · intro q hq
        by_cases y : q < n - f
        · rw [p1 q y]
          by_cases y2 : q + 1 < n - f
          · rw [p1 (q + 1) y2]; omega
          · obtain ⟨e, -, y3, -⟩ := p2 (q + 1) (by omega) hq
            omega
        · have := p3 q (by omega) hq
          omega
    | succ r ih =>
      intro c n μ1 hc o1 hn p1 p2 p3 p4
      have h1 := h.fS o1.S
      have hst := step c
      have hle : m_cnt g 0 (c + 1) ≤ f := by
        rw [← hfull]
        have := m_cnt_add g (c + 1) (tw_nc A - (c + 1)) 0
        rw [show c + 1 + (tw_nc A - (c + 1)) = tw_nc A by omega] at this
        omega
      refine VX12_firstRow_35 C R ?_
      rw [h1.1.2.1.1, Int.toNat_natCast, h1.1.2.1.nc, Int.toNat_natCast, o1 34 45 c (by omega), w32_s (by omega)]
      have hgc : g c = true ↔ μ 34 45 c = (kn : Int) := by rw [hg, Nat.mul_zero, Nat.zero_add]; simp
      refine ⟨⟨by omega, by omega⟩, fun q => absurd q (by omega), fun _ => ⟨⟨by omega, by omega⟩, fun q => ?_, fun q x4 e4 => ?_⟩⟩
      · have gy := hgc.mpr q
        rw [if_pos gy] at hst
        rw [Int.toNat_natCast, w32_s (by omega)]
        refine ⟨⟨by omega, by omega⟩, fun μ2 e2 x2 ex2 x3 ex3 => ?_⟩
        subst ex2; subst ex3
        have v : ∀ j, j ≠ n → μ2 34 59 j = μ1 34 59 j := fun j hj => by rw [e2, m_up_ne _ _ (by omega)]
        have vn : μ2 34 59 n = (c : Int) := by rw [e2, m_up_at]
        refine ih (c + 1) (n + 1) μ2 (by omega) (o1.tr (fun x y z q => by rw [e2, m_up_ne _ _ (by omega)])) (by omega) (fun j hj => by rw [v j (by omega)]; exact p1 j hj) (fun j h1 h2 => ?_) (fun j h1 h2 => ?_) (fun e he hge => ?_)
        · by_cases y : j = n
          · subst y; exact ⟨c, by omega, vn, gy⟩
          · obtain ⟨e, he, y2, y3⟩ := p2 j h1 (by omega)
            exact ⟨e, by omega, by rw [v j y]; exact y2, y3⟩
        · by_cases y : j + 1 = n
          · rw [v j (by omega), y, vn]
            obtain ⟨e, he, y2, -⟩ := p2 j h1 (by omega)
            omega
          · rw [v j (by omega), v (j + 1) (by omega)]; exact p3 j h1 (by omega)
        · by_cases y : e = c
          · subst y; exact ⟨n, by omega, by omega, vn⟩
          · obtain ⟨j, j1, j2, j3⟩ := p4 e (by omega) hge
            exact ⟨j, j1, by omega, by rw [v j (by omega)]; exact j3⟩
      · rw [w32_s (by omega)] at e4
        subst e4
        have gy : ¬ g c = true := fun z => q (hgc.mp z)
        rw [if_neg gy] at hst
        refine ih (c + 1) n μ1 (by omega) o1 (by omega) p1 (fun j h1 h2 => ?_) p3 (fun e he hge => ?_)
        · obtain ⟨e, he, y2, y3⟩ := p2 j h1 h2
          exact ⟨e, by omega, y2, y3⟩
        · by_cases y : e = c
          · subst y; exact absurd hge gy
          · exact p4 e (by omega) hge
  have L1 : ∀ (r i : Nat) (μ1 : m_M), i + r = rm - f → of59 μ μ1 → (∀ q, q < i → μ1 34 59 q = -1) → mW G X YX12_firstRow μ1 10 [some (vR 34 0), some (vI (kn : Int)), some (vI (rm : Int)), some (vI (i : Int)), some (vI ((f + i : Nat) : Int))] [] := by
    intro r
    induction r with
    | zero =>
      intro i μ1 hi o1 p1
      refine VX12_firstRow_10 C R ⟨fun _ => ?_, fun q => absurd (by omega) q⟩
      have hi : i = rm - f := by omega
      subst hi
      exact L2 (tw_nc A) 0 (rm - f) μ1 (by omega) o1 (by show _ = _ + 0; omega) p1 (fun q h1 h2 => by omega) (fun q h1 h2 => by omega) (fun e he => by omega)
    | succ r ih =>
      intro i μ1 hi o1 p1
      refine VX12_firstRow_10 C R ⟨fun q => absurd q (by omega), fun _ => ⟨⟨by omega, by omega⟩, fun μ2 e2 x3 e3 x4 e4 => ?_⟩⟩
      rw [Int.toNat_natCast] at e2
      rw [w32_s (by omega)] at e3 e4
      subst e3; subst e4
      refine ih (i + 1) μ2 (by omega) (o1.tr (fun x y z q => by rw [e2, m_up_ne _ _ (by omega)])) (fun q hq => ?_)
      by_cases y : q = i
      · subst y; rw [e2, m_up_at]
      · rw [e2, m_up_ne _ _ (by omega)]; exact p1 q (by omega)
  exact L1 (rm - f) 0 μ (by omega) (of59.rf μ) (fun q hq => by omega)
theorem mo_best {d : Nat} {μ : m_M} {A : m_T} {t s b kn rm : Nat} (h : RA μ A t s b) (hk : kn < tw_nk A) (hroom : tw_room A kn = (rm : Int)) (hn : b_cnt (μ 10) kn ≠ 0) (ha : 0 ≤ a2 ∧ a2 ≤ 1 + (rm : Int)) {Z : Int} (hZ : ∀ hb s row, BS A (μ 10) kn rm (μ 10 0 0) (fun heat => 0 ≤ heat ∧ heat ≤ 20) hb s row → Z = if hb = -1 ∨ a2 = 0 then hb else if a2 = 1 then s else row (a2 - 2).toNat) : c_i G (d + 100) YX12_best [vR 34 0, vI (kn : Int), vI a2] μ (fun r2 μ2 => r2 = Z ∧ RR μ2) := by
  have hM := h.1.2.1
  have hb := hM.2.1
  have hA := h.1.1.2.2.2.1
  have hB := h.2.1.1
  have hk3 : kn < 3 := Nat.lt_of_lt_of_le hk hA.2.1
  have hro := hA.2.2.2.1 kn hk
  have hw := h.2.1.sw
  have hrm1 : 1 ≤ rm := by omega
  have hrm6 : rm ≤ 6 := by omega
  have p9 : 9 ^ rm ≤ 531441 := by
    have := Nat.pow_le_pow_right (n := 9) (by decide) hrm6
    exact this
  have ew : w32 ((w32 (3 * (μ 34 0 13))) + (kn : Int)) = ((3 * b + kn : Nat) : Int) := by rw [hM.1]; exact w_3b (by omega) hk3
  refine EX12_best (fun X C R => mo_kiln_y h ⟨by omega, by omega⟩ ⟨z1, fun _ => cm_full (v := 0) hM (by decide) ?_⟩)
  rw [h.2.1.cnt hA kn, ew, Int.toNat_natCast, hM.room hk, hroom, w32_le (z := 1 + (rm : Int)) (by omega) (by omega)]
  refine ⟨fun q => absurd (by omega) hn, fun _ => ⟨⟨by omega, by omega⟩, mo_is_y ha ⟨fun _ => ?_, z1⟩⟩⟩
  rw [ew, Int.toNat_natCast, hM.room hk, hroom]
  refine ⟨⟨by omega, by omega⟩, fun x7 e7 => ?_⟩
  subst e7
  obtain ⟨B, hBd⟩ : ∃ B, B = μ 10 := ⟨_, rfl⟩
  rw [← hBd] at hB hn hZ hw
  have arr_in : ∀ {row : Nat → Int}, isArr B kn rm row → ∀ p, p < rm → -1 ≤ row p ∧ row p < 8 := fun {row} hr p hp => by
    rcases hr.1 p hp with y | ⟨c, hc, y, -⟩ <;> omega
  have fM : ∀ μ1, ofS μ μ1 → RA μ1 A t s b ∧ μ1 34 43 0 = B 0 0 := fun μ1 o1 => by
    have h1 := h.fS o1
    exact ⟨h1, by rw [h1.2.1.w.1, fr10 o1, hBd]⟩
  -- one heat
  have L81 : ∀ (n : Nat) (hn20 : n ≤ 20) (x0 : Int × Int × Int × (Nat → Int)) (hx0 : -1 ≤ x0.2.1) (_ : ∀ μ2 l4 l5, ofS μ μ2 → PO A (B 0 0) (n : Int) rm (fun r => isArr B kn rm r ∧ rowOK A (B 0 0) (n : Int) rm r) x0 (l4, l5, l5, μ2 34 60) → mW G X YX12_best μ2 81 [some (vR 34 0), some (vI (kn : Int)), some (vI a2), some (vI (rm : Int)), some (vI l4), some (vI l5), some (vI (n : Int)), some (vI 0), none, none] []), ∀ (fuel : Nat) (μ1 : m_M) (l4 l5 : Int), 531441 ≤ vl (μ1 34 59) rm + fuel → ofS μ μ1 → isArr B kn rm (μ1 34 59) → PO A (B 0 0) (n : Int) rm (fun r => isArr B kn rm r ∧ rowOK A (B 0 0) (n : Int) rm r ∧ lexlt rm r (μ1 34 59)) x0 (l4, l5, l5, μ1 34 60) → mW G X YX12_best μ1 81 [some (vR 34 0), some (vI (kn : Int)), some (vI a2), some (vI (rm : Int)), some (vI l4), some (vI l5), some (vI (n : Int)), some (vI 1), none, none] [] := by
    intro n hn20 x0 hx0 done fuel
    induction fuel with
    | zero =>
      intro μ1 l4 l5 hv o1 hr _
      have := vl_bd (arr_in hr) rm (Nat.le_refl rm)
      omega
    | succ fuel ih =>
      intro μ1 l4 l5 hv o1 hr po
      obtain ⟨h1, w1⟩ := fM μ1 o1
      -- behind the row: the next one
      have next : ∀ (l4' l5' : Int) (μ2 : m_M), ofS μ μ2 → (∀ q, q < rm → μ2 34 59 q = μ1 34 59 q) → PO A (B 0 0) (n : Int) rm (fun r => isArr B kn rm r ∧ rowOK A (B 0 0) (n : Int) rm r ∧ ∀ q, q < rm → r q = μ1 34 59 q) (l4, l5, l5, μ1 34 60) (l4', l5', l5', μ2 34 60) → c_i G (d + 99) YX12_isNextRow [vR 34 0, vI (rm : Int)] μ2 (fun r6 μ5 => mW G X YX12_best μ5 81 [some (vR 34 0), some (vI (kn : Int)), some (vI a2), some (vI (rm : Int)), some (vI l4'), some (vI l5'), some (vI (n : Int)), some (vI r6), none, none] []) := fun l4' l5' μ2 o2 e2 poE => by
        have hr2 : isArr B kn rm (μ2 34 59) := hr.congr e2
        have poU := po.seq poE (fun r1 r2 s1 s2 => (s1.2.2.congr (fun _ _ => rfl) s2.2.2 : lexlt rm r1 r2).le)
        refine mo_next hr2 hrm1 hrm6 (fun hall => ?_) (fun μ3 o3 hr3 hlt hmin => ?_)
        · refine done μ2 l4' l5' o2 (poU.sub (fun r => ⟨fun z => ?_, fun z => ?_⟩))
          · rcases z with z | z
            · exact ⟨z.1, z.2.1⟩
            · exact ⟨z.1, z.2.1⟩
          · rcases hall r z.1 with y | y
            · exact Or.inr ⟨z.1, z.2, fun q hq => (y q hq).trans (e2 q hq)⟩
            · exact Or.inl ⟨z.1, z.2, lexlt.congr (fun _ _ => rfl) (fun q hq => (e2 q hq).symm) y⟩
        · have e60 : μ3 34 60 = μ2 34 60 := by funext j; exact o3 34 60 j (by omega)
          have hl1 : lexlt rm (μ1 34 59) (μ3 34 59) := hlt.congr (fun q hq => (e2 q hq).symm) (fun _ _ => rfl)
          have hvl := vl_lt (arr_in hr) (arr_in hr3) hl1
          refine ih μ3 l4' l5' (by omega) (o2.tr o3.S) hr3 ?_
          rw [e60]
          refine poU.sub (fun r => ⟨fun z => ?_, fun z => ?_⟩)
          · rcases z with z | z
            · exact ⟨z.1, z.2.1, z.2.2.tr hl1⟩
            · exact ⟨z.1, z.2.1, hl1.congr z.2.2 (fun _ _ => rfl)⟩
          · rcases hmin r z.1 with y | y
            · rcases y with y | y
              · exact Or.inr ⟨z.1, z.2.1, fun q hq => (y q hq).trans (e2 q hq)⟩
              · exact Or.inl ⟨z.1, z.2.1, lexlt.congr (fun _ _ => rfl) (fun q hq => (e2 q hq).symm) y⟩
            · exact absurd y (fun y => z.2.2.not y)
      have O : ∀ μ3, offM (m_up μ1 34 59 rm (-1)) μ3 → ofS μ μ3 := fun μ3 o3 => (o1.tr (ofS.up (by unfold scr; omega))).tr o3.S
      have P : ∀ μ3, offM (m_up μ1 34 59 rm (-1)) μ3 → ∀ j, j < rm → μ3 34 59 j = μ1 34 59 j := fun μ3 o3 j hj => by rw [o3 34 59 j (by omega), m_up_ne _ _ (by omega)]
      have Q : ∀ μ3, offM (m_up μ1 34 59 rm (-1)) μ3 → μ3 34 60 = μ1 34 60 := fun μ3 o3 => by funext j; rw [o3 34 60 j (by omega), m_up_ne _ _ (by omega)]
      refine VX12_best_81 C R ⟨fun q => absurd q (by decide), fun _ => cm_sumOf h1.1.2.1 hrm6 ⟨by omega, by omega⟩ (by rw [w1]; exact hw) (fun p hp => ?_) (fun hok μ3 o3 => ?_) (fun hok μ3 o3 => ?_)⟩
      · rcases hr.1 p hp with y | ⟨c, hc, y, hkc⟩
        · exact Or.inl y
        · exact Or.inr ⟨c, hB.nc c hc hkc, y⟩
      · rw [w1] at hok ⊢
        refine ⟨fun q => next l4 l5 μ3 (O μ3 o3) (P μ3 o3) ?_, fun q => ?_⟩
        · rw [Q μ3 o3]
          refine PO.none (fun r z => ?_)
          rw [rowSum_congr rm z.2.2]; exact q
        · have L113 : ∀ (r i : Nat) (μ4 : m_M), i + r = rm → ofS μ μ4 → (∀ q, q < rm → μ4 34 59 q = μ1 34 59 q) → (∀ q, q < i → μ4 34 60 q = μ1 34 59 q) → mW G X YX12_best μ4 113 [some (vR 34 0), some (vI (kn : Int)), some (vI a2), some (vI (rm : Int)), some (vI (n : Int)), some (vI (rowSum A (B 0 0) (n : Int) (μ1 34 59) rm)), some (vI (n : Int)), some (vI 1), some (vI (rowSum A (B 0 0) (n : Int) (μ1 34 59) rm)), some (vI (i : Int))] [] := by
            intro r
            induction r with
            | zero =>
              intro i μ4 hi o4 e4 b4
              refine VX12_best_113 C R ⟨fun _ => next _ _ μ4 o4 e4 (Or.inr ⟨μ1 34 59, ⟨hr, hok, fun _ _ => rfl⟩, fun q hq => b4 q (by omega), rfl, rfl, rfl, ?_, fun r z => Or.inr ⟨rowSum_congr rm z.2.2, Or.inl (fun q hq => (z.2.2 q hq).symm)⟩⟩), fun q => absurd (by omega) q⟩
              show l5 < _
              omega
            | succ r ih2 =>
              intro i μ4 hi o4 e4 b4
              refine VX12_best_113 C R ⟨fun q => absurd q (by omega), fun _ => ⟨⟨by omega, by omega⟩, ⟨by omega, by omega⟩, fun μ5 e5 x5 ex5 => ?_⟩⟩
              rw [Int.toNat_natCast] at e5
              rw [w32_s (by omega)] at ex5
              subst ex5
              refine ih2 (i + 1) μ5 (by omega) (by rw [e5]; exact o4.tr (ofS.up (by unfold scr; omega))) (fun q hq => by rw [e5, m_up_ne _ _ (by omega)]; exact e4 q hq) (fun q hq => ?_)
              by_cases y : q = i
              · subst y; rw [e5, m_up_at]; exact e4 q (by omega)
              · rw [e5, m_up_ne _ _ (by omega)]; exact b4 q (by omega)
          exact L113 rm 0 μ3 (by omega) (O μ3 o3) (P μ3 o3) (fun q hq => by omega)
      · rw [w1] at hok
        have hl5 : -1 ≤ l5 := po.ge hx0
        refine ⟨fun q => next l4 l5 μ3 (O μ3 o3) (P μ3 o3) ?_, fun q => ?_⟩
        · rw [Q μ3 o3]
          exact PO.none (fun r z => absurd (z.2.1.congr (fun q hq => (z.2.2 q hq).symm)) hok)
        · -- nothing is below none
          exact absurd hl5 q
  have L65 : ∀ (r n : Nat) (μ1 : m_M) (l4 l5 : Int), n + r = 21 → ofS μ μ1 → (l4 = -1 → l5 = -1) → BS A B kn rm (B 0 0) (fun heat => 0 ≤ heat ∧ heat < (n : Int)) l4 l5 (μ1 34 60) → mW G X YX12_best μ1 65 [some (vR 34 0), some (vI (kn : Int)), some (vI a2), some (vI (rm : Int)), some (vI l4), some (vI l5), some (vI (n : Int)), none, none, none] [] := by
    intro r
    induction r with
    | zero =>
      intro n μ1 l4 l5 hr o1 h01 bs
      obtain ⟨h1, w1⟩ := fM μ1 o1
      have hz := hZ l4 l5 (μ1 34 60) (bs.H (fun heat => by constructor <;> intro z <;> omega))
      have hR : RR μ1 := ⟨A, t, s, b, h1⟩
      refine VX12_best_65 C R ⟨fun _ => ⟨fun q => ⟨?_, hR⟩, fun q => ⟨fun q2 => ⟨fun q3 => ?_, fun q3 => ⟨?_, hR⟩⟩, fun q2 => ⟨?_, hR⟩⟩⟩, fun q => absurd (by omega) q⟩
      · rw [hz, if_pos (Or.inl q)]
      · rw [w32_le (by omega) (by omega)]
        refine ⟨⟨by omega, by omega⟩, ?_, hR⟩
        rw [hz, if_neg (by omega), if_neg q3]
      · rw [hz, if_neg (by omega), if_pos q3]
      · rw [hz, if_pos (Or.inr q2)]
    | succ r ih =>
      intro n μ1 l4 l5 hr o1 h01 bs
      obtain ⟨h1, w1⟩ := fM μ1 o1
      have f1 := fr10 o1
      refine VX12_best_65 C R ⟨fun q => absurd q (by omega), fun _ => mo_first h1 hk hroom hrm6 (fun μ2 o2 hr2 hinc => ?_)⟩
      rw [f1, ← hBd] at hr2
      have e60 : μ2 34 60 = μ1 34 60 := by funext j; exact o2 34 60 j (by omega)
      have hl5 : -1 ≤ l5 := by
        rcases bs with ⟨z, -⟩ | ⟨-, -, -, -, z, -⟩
        · have := h01 z; omega
        · have := rowSum_0 A (B 0 0) l4 (μ1 34 60) rm
          omega
      refine L81 n (by omega) (l4, l5, l5, μ1 34 60) hl5 (fun μ3 l4' l5' o3 po => ?_) 531441 μ2 l4 l5 (by omega) (o1.tr o2.S) hr2 ?_
      · refine VX12_best_81 C R ⟨fun _ x1 e1 => ?_, fun q => absurd rfl q⟩
        rw [w32_s (by omega)] at e1
        subst e1
        have up := PO.heat (h := (n : Int)) (by omega) h01 rfl bs po
        refine ih (n + 1) μ3 l4' l5' (by omega) o3 up.2 ?_
        rw [show ((n + 1 : Nat) : Int) = (n : Int) + 1 by omega]
        exact up.1
      · rw [e60]
        refine PO.none (fun r z => ?_)
        exfalso
        exact z.2.2.not (inc_min rm 0 (by omega) (fun q _ hq => hinc q hq) (fun v => hr2.cvs z.1 v) (fun q hq => by omega))
  exact L65 21 0 μ (-1) (-1) (by omega) (ofS.rf μ) (fun _ => rfl) (Or.inl ⟨rfl, fun heat row' hh => by omega⟩)
theorem S_best : SIM G YX11_best YX12_best [vI a1, vI a2] := by
  intro d μ ⟨A, t, s, b, h⟩
  have hR : RR μ := ⟨A, t, s, b, h⟩
  have hM := h.1.2.1
  have hb := hM.2.1
  have hA := h.1.1.2.2.2.1
  by_cases hy : 0 ≤ a1 ∧ a1 < (tw_nk A : Int)
  · obtain ⟨kn, rfl⟩ : ∃ kn : Nat, a1 = (kn : Int) := ⟨a1.toNat, by omega⟩
    have hk : kn < tw_nk A := by omega
    have hk3 : kn < 3 := Nat.lt_of_lt_of_le hk hA.2.1
    have hro := hA.2.2.2.1 kn hk
    obtain ⟨rm, hrm⟩ : ∃ rm : Nat, tw_room A kn = (rm : Int) := ⟨(tw_room A kn).toNat, by omega⟩
    have etn : (tw_room A kn).toNat = rm := by omega
    -- the reference refuses
    have no : ∀ μ1, RA μ1 A t s b → μ1 10 = μ 10 → (b_cnt (μ 10) kn = 0 ∨ ¬ (0 ≤ a2 ∧ a2 ≤ 1 + (rm : Int))) → c_i G (d + 100) YX12_best [vR 34 0, vI (kn : Int), vI a2] μ1 (fun r2 μ2 => r2 = -1 ∧ RR μ2) := fun μ1 h1 e10 hn => by
      have hM1 := h1.1.2.1
      have ew : w32 ((w32 (3 * (μ1 34 0 13))) + (kn : Int)) = ((3 * b + kn : Nat) : Int) := by rw [hM1.1]; exact w_3b (by omega) hk3
      refine EX12_best (fun X C R => mo_kiln_y h1 hy ⟨z1, fun _ => cm_full (v := 0) hM1 (by decide) ?_⟩)
      rw [h1.2.1.cnt hA kn, e10, ew, Int.toNat_natCast, hM1.room hk, hrm, w32_le (z := 1 + (rm : Int)) (by omega) (by omega)]
      refine ⟨fun _ => ⟨rfl, A, t, s, b, h1⟩, fun q => ⟨⟨by omega, by omega⟩, mo_is_n ?_ ⟨z0, fun _ => ⟨rfl, A, t, s, b, h1⟩⟩⟩⟩
      rcases hn with z | z
      · exact absurd (by omega) q
      · exact z
    have wr : w32 (2 + (rm : Int)) = 2 + (rm : Int) := w32_le (by omega) (by omega)
    refine EX11_best (cl_kiln_y h hy ⟨z1, fun _ => ⟨fun q => no μ h rfl (Or.inr (by omega)), fun q => ⟨t, h.1.2.2.1.1, h.1.1.1, ⟨by omega, by omega⟩, ?_⟩⟩⟩)
    rw [Int.toNat_natCast, h.1.1.room hk, hrm, wr]
    refine ⟨fun q2 => c_find h hk (fun μ4 f4 s3 bi => ?_), fun q2 => no μ h rfl (Or.inr (by omega))⟩
    have e10 : μ4 10 = μ 10 := by funext y z; exact f4 10 y z (by decide) (by decide)
    have h4 : RA μ4 A t s b := h.best f4 (Or.inr ⟨kn, hk, s3, by rw [e10]; exact bi⟩)
    by_cases hc : b_cnt (μ 10) kn = 0
    · have hm1 : μ4 7 0 0 = -1 := by
        rcases bi with ⟨z, -⟩ | ⟨z, -⟩
        · exact z
        · exact absurd hc z
      exact ⟨fun z => absurd hm1 z, fun _ => no μ4 h4 e10 (Or.inl hc)⟩
    · have bs := (bestIs_BS hc).mp bi
      rw [etn] at bs
      have key : ∀ Z : Int, Z = (if μ4 7 0 0 = -1 ∨ a2 = 0 then μ4 7 0 0 else if a2 = 1 then μ4 7 0 1 else μ4 7 3 (a2 - 2).toNat) → c_i G (d + 100) YX12_best [vR 34 0, vI (kn : Int), vI a2] μ4 (fun r2 μ2 => r2 = Z ∧ RR μ2) := fun Z hz => by
        refine mo_best h4 hk hrm (by rw [e10]; exact hc) ⟨by omega, by omega⟩ (fun hb' s' row' bs' => ?_)
        rw [e10] at bs'
        obtain ⟨u1, u2⟩ := bs.uniq bs'
        rw [hz]
        by_cases z : μ4 7 0 0 = -1
        · rw [if_pos (Or.inl z), if_pos (Or.inl (u1.symm.trans z)), u1]
        · obtain ⟨v1, v2⟩ := u2 z
          by_cases y : a2 = 0
          · rw [if_pos (Or.inr y), if_pos (Or.inr y), u1]
          · rw [if_neg (show ¬ (μ4 7 0 0 = -1 ∨ a2 = 0) by omega), if_neg (show ¬ (hb' = -1 ∨ a2 = 0) by omega)]
            by_cases y1 : a2 = 1
            · rw [if_pos y1, if_pos y1, v1]
            · rw [if_neg y1, if_neg y1]
              exact v2 _ (by omega)
      refine ⟨fun q3 => ⟨fun q4 => key _ ?_, fun q4 => key _ ?_, fun q4 => ?_⟩, fun q3 => key _ ?_⟩
      · rw [if_pos (Or.inr q4)]
      · rw [if_neg (by omega), if_pos q4]
      · rw [w32_le (by omega) (by omega)]
        refine ⟨⟨by omega, by omega⟩, key _ ?_⟩
        rw [if_neg (by omega), if_neg q4.2]
      · rw [if_pos (Or.inl q3)]; exact q3.symm
  · exact EX11_best (cl_kiln_n h hy ⟨fun _ => EX12_best (fun X C R => mo_kiln_n h hy ⟨fun _ => ⟨rfl, hR⟩, z0⟩), z0⟩)
end FB
