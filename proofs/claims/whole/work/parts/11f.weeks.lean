/-! ===== weeks, chance, undo ===== -/
noncomputable def p_fs (A : m_T) (B : Nat → Nat → Int) : Nat → Int
  | 0 => 0
  | k + 1 => p_fs A B k + (p_week A (p_it A k B) 0).2
theorem p_fs_in {A : m_T} (hA : TA A) {B : Nat → Nat → Int} (hB : BI A B) : ∀ k : Nat, B 0 0 + (k : Int) ≤ 999 → 0 ≤ p_fs A B k ∧ p_fs A B k ≤ 3 * (k : Int) := by
  intro k
  induction k with
  | zero => intro _; unfold p_fs; omega
  | succ k ih =>
    intro hk
    have h1 := ih (by omega)
    obtain ⟨b1, b2⟩ := p_it_BI hA hB k (by omega)
    have := BI.week (gust := 0) hA b1 (by omega)
    unfold p_fs
    omega
theorem popc8 : ∀ x, x < 8 → popc x = m_cnt (fun c => x.testBit c) 0 3 := by decide +kernel
theorem R_undo.t {t s : Nat} (h : t = 32 ∧ s = 33 ∨ t = 33 ∧ s = 32) {n : Nat} (hn : n < 20) : t ≠ 5 ∧ t ≠ 6 ∧ t ≠ 7 ∧ t ≠ 10 ∧ t ≠ 12 + n ∧ t ≠ 1 ∧ t ≠ 34 := by omega
/-- the class's town behind the beginning of an act, and on -/
theorem AC.ct {μ μ1 μ2 : m_M} {A : m_T} {t s b n c : Nat} (h : RA μ A t s b) (hn : n < 20) (h1 : AC μ μ1 n c) (h2 : ∀ x y z, x ≠ 5 → x ≠ 10 → ¬ (x = 1 ∧ y = 0 ∧ z = 13) → μ2 x y z = μ1 x y z) : CT μ2 t A := by
  obtain ⟨t1, t2, t3, t4, t5, t6, t7⟩ := R_undo.t h.1.2.2.2.1 hn
  exact h.1.1.mv ((h2 4 0 0 (by omega) (by omega) (by omega)).trans (h1.1 4 0 0 (by omega) (by omega) (by omega))) (fun y z => (h2 t y z t1 t4 (fun q => t6 q.1)).trans (h1.1 t y z (fun q => t2 q.1) (fun q => t3 q.1) t5))
section S8
variable {G : m_G} {a1 a2 a3 a4 : Int}
theorem S_weeks : SIM G YX11_weeks YX12_weeks [vI a1] := by
  intro d μ ⟨A, t, s, b, h⟩
  have hM := h.1.2.1
  have hA := h.1.1.2.2.2.1
  have hBI := h.2.1.1
  have hwk := hBI.1
  refine EX11_weeks (fun X C R => ?_)
  by_cases hy : 1 ≤ a1 ∧ a1 ≤ 40 ∧ μ 10 0 0 + a1 ≤ 999
  · obtain ⟨N, rfl⟩ : ∃ N : Nat, a1 = (N : Int) := ⟨a1.toNat, by omega⟩
    have ew : w32 (μ 10 0 0 + (N : Int)) = μ 10 0 0 + (N : Int) := w32_le (by omega) (by omega)
    refine EX11_canPass ⟨fun q => absurd q (by omega), fun _ => ⟨fun q => absurd q (by omega), fun _ => ⟨fun q => absurd q (by rw [ew]; omega), fun _ => ⟨fun _ => ?_, z1⟩⟩⟩⟩
    obtain ⟨cu, n, f, hb, ⟨u1, u2, u3, u4⟩, hk⟩ := h.2.2.1
    refine cl_act hb.2.1 hb.1 u2 u1 hBI (fun μ1 hac => ?_)
    obtain ⟨ac10, ac34⟩ := hac.o.resolve_right (by omega)
    have fin : ∀ μ2, (∀ x y z, x ≠ 5 → x ≠ 10 → μ2 x y z = μ1 x y z) → μ2 10 = p_it A N (μ 10) → c_i G (d + 100) YX12_weeks [vR 34 0, vI (N : Int)] μ2 (fun r2 μ4 => r2 = p_fs A (μ 10) N ∧ RR μ4) := fun μ2 o2 e10 => by
      have e34 : μ2 34 = μ 34 := by rw [← ac34]; funext y z; exact o2 34 y z (by omega) (by omega)
      have h51 : 0 ≤ μ2 34 51 0 ∧ μ2 34 51 0 ≤ 8 := by rw [e34, h.2.1.w.2.2]; exact h.2.1.fir
      refine EX12_weeks (fun X C R => mt_ah_y (w := μ 10 0 0) (by rw [e34]; exact h.2.1.w.1) ⟨by omega, by omega⟩ (by omega) (by omega) ⟨fun _ => mo_keep hb.2.2 hb.1 (by rw [e34]; exact u4) (by rw [e34]; exact u3) h51 (fun μ3 ham => ?_), z1⟩)
      obtain ⟨l0, i8, hM3, s54, w43⟩ := AM.l0 h e34 ham
      have L : ∀ (r k : Nat) (μ4 : m_M), k + r = N → ofL 0 μ3 μ4 → in8 (μ4 34 49 0) → beq (mK A (μ4 34) 0) (p_it A k (μ 10)) → mW G X YX12_weeks μ4 25 [some (vR 34 0), some (vI (N : Int)), some (vI (p_fs A (μ 10) k)), some (vI (k : Int))] [] := by
        intro r
        induction r with
        | zero =>
          intro k μ4 hkN o4 j8 e4
          have ek : k = N := by omega
          subst ek
          refine VX12_weeks_25 C R ⟨fun _ => ⟨rfl, A, t, s, b, ?_⟩, fun q => absurd (by omega) q⟩
          have g : ∀ x y z, ¬ inL 0 x y z → ¬ inL (2 + (f + cu) % 20) x y z → ¬ (x = 34 ∧ y = 0 ∧ (z = 52 ∨ z = 53)) → μ4 x y z = μ2 x y z := fun x y z a c e => (o4 x y z a).trans (ham.1 x y z e c)
          have e410 : μ4 10 = p_it A k (μ 10) := by rw [← e10]; funext y z; exact g 10 y z (by unfold inL; omega) (by unfold inL; omega) (by omega)
          refine h.act hb hk hac (fun x y z k1 k2 _ => o2 x y z k1 k2) ham (fun x y z k1 _ => o4 x y z k1) ⟨by rw [e410]; exact (p_it_BI hA hBI k (by omega)).1, by rw [e410]; exact e4, j8⟩ ?_
          rw [o4 34 0 54 (by unfold inL; omega), s54, g 1 0 13 (by unfold inL; omega) (by unfold inL; omega) (by omega), o2 1 0 13 (by omega) (by omega), hac.1 1 0 13 (by omega) (by omega) (by omega)]
          exact h.2.2.2.2.1.1
        | succ r ih =>
          intro k μ4 hkN o4 j8 e4
          obtain ⟨b1, b2⟩ := p_it_BI hA hBI k (by omega)
          have hB4 := e4.sy.BI b1
          have w4 : μ4 34 43 0 = μ 10 0 0 + (k : Int) := e4.1.1.trans b2
          have hfs := p_fs_in hA hBI k (by omega)
          refine VX12_weeks_25 C R ⟨fun q => absurd q (by omega), fun _ => cm_ticksK (v := 0) (hM3.ofL o4) (by decide) hB4 j8 (gust := 0) (by omega) (by omega) (fun μ5 o5 j5 e5 b57 _ c57 => ?_)⟩
          obtain ⟨x, hx⟩ : ∃ x : Nat, μ5 34 0 57 = (x : Int) := ⟨(μ5 34 0 57).toNat, by omega⟩
          rw [hx] at b57 c57 ⊢
          refine cm_bits (by omega) (fun x4 e4' x5 e5' => ?_)
          have hp : (popc x : Int) = (p_week A (p_it A k (μ 10)) 0).2 := by
            rw [← (p_week_beq (gust := 0) hA hB4 e4).2, c57, popc8 x (by omega)]
            unfold tb
            simp only [Int.toNat_natCast]
          have hw3 := (BI.week (gust := 0) hA b1 (by omega)).2.2
          rw [hp, w32_le (by omega) (by omega)] at e4'
          rw [w32_s (by omega)] at e5'
          subst e4'; subst e5'
          exact ih (k + 1) μ5 (by omega) (o4.tr o5) j5 (e5.tr (p_week_beq hA hB4 e4).1)
      exact L N 0 μ3 (by omega) (ofL.rf 0 μ3) i8 l0
    have L : ∀ (r k : Nat) (μ2 : m_M), k + r = N → (∀ x y z, x ≠ 5 → x ≠ 10 → μ2 x y z = μ1 x y z) → μ2 10 = p_it A k (μ 10) → mW G X YX11_weeks μ2 22 [some (vR 1 0), some (vI (N : Int)), some (vI (p_fs A (μ 10) k)), some (vI (k : Int))] [] := by
      intro r
      induction r with
      | zero =>
        intro k μ2 hkN o2 e2
        have ek : k = N := by omega
        subst ek
        exact VX11_weeks_22 C R ⟨fun _ => fin μ2 o2 e2, fun q => absurd (by omega) q⟩
      | succ r ih =>
        intro k μ2 hkN o2 e2
        obtain ⟨b1, b2⟩ := p_it_BI hA hBI k (by omega)
        have hfs := p_fs_in hA hBI k (by omega)
        refine VX11_weeks_22 C R ⟨fun q => absurd q (by omega), fun _ => c_passWeek (AC.ct h hb.2.1 hac (fun x y z k1 k2 _ => o2 x y z k1 k2)) (by decide) (by rw [e2]; exact b1) (by omega) (by rw [e2, b2]; omega) (fun μ3 o3 e3 x3 ex x4 ex4 => ?_)⟩
        have hw3 := (BI.week (gust := 0) hA b1 (by omega)).2.2
        rw [e2] at e3 ex
        rw [w32_le (by omega) (by omega)] at ex
        rw [w32_s (by omega)] at ex4
        subst ex; subst ex4
        exact ih (k + 1) μ3 (by omega) (fun x y z k1 k2 => (o3 x y z k1 k2).trans (o2 x y z k1 k2)) e3
    exact L N 0 μ1 (by omega) (fun _ _ _ _ _ => rfl) ac10
  · have no : c_i G (d + 99) YX11_refuseWithNone [vR 1 0, vI 2] μ (fun r7 μ6 => c_i G (d + 100) YX12_weeks [vR 34 0, vI a1] μ6 (fun r2 μ2 => r2 = r7 ∧ RR μ2)) := by
      refine cl_rN (w := 2) (by decide) (EX12_weeks (fun X C R => mt_ah_n (w := μ 10 0 0) (by rw [ref34]; exact h.2.1.w.1) (fun z => by omega) hy ⟨z0, fun _ => mo_rf1 h (by decide) rfl⟩))
    refine EX11_canPass ⟨fun _ => ⟨z0, fun _ => no⟩, fun q1 => ⟨fun _ => ⟨z0, fun _ => no⟩, fun q2 => ⟨fun _ => ⟨z0, fun _ => no⟩, fun q => absurd q ?_⟩⟩⟩
    rw [w32_le (by omega) (by omega)]; omega
/-! draws -/
def dr (x : Int) : Int := (1103515245 * x + 12345) % 2147483648
theorem dr_in (x : Int) : bt (dr x) := by unfold dr bt; omega
theorem l_and31 {x : Int} (h : 0 ≤ x) : l_and x 2147483647 = x % 2147483648 := by
  have e : (Int64.ofInt x &&& Int64.ofInt 2147483647).toBitVec.toNat = (x % 2147483648).toNat := by
    rw [Int64.toBitVec_and, BitVec.toNat_and, show (Int64.ofInt 2147483647).toBitVec.toNat = 2 ^ 31 - 1 from rfl, Nat.and_two_pow_sub_one_eq_mod, Int64.toBitVec_ofInt, BitVec.toNat_ofInt]
    omega
  rw [l_and_def]
  show (Int64.ofInt x &&& Int64.ofInt 2147483647).toBitVec.toInt = _
  rw [BitVec.toInt_eq_toNat_of_lt (by rw [e]; omega), e]
  omega
theorem cl_draw {d : Nat} {μ : m_M} {x m : Int} (e : μ 1 0 13 = x) (hx : bt x) (hm : 0 < m ∧ m ≤ 100) {K : Int → m_M → Prop} (k : ∀ μ1, μ1 = m_up μ 1 0 13 (dr x) → K (dr x / 64 % m) μ1) : c_i G (d + 1) YX11_draw [vR 1 0, vI m] μ K := by
  unfold bt at hx
  have hd := dr_in x
  unfold bt at hd
  refine EX11_draw (fun μ1 e1 => ?_)
  rw [e, w64_le (z := 1103515245 * x) (by omega) (by omega), w64_le (by omega) (by omega), l_and31 (by omega), show (1103515245 * x + 12345) % 2147483648 = dr x from rfl, w32_le (by omega) (by omega)] at e1
  have v : μ1 1 0 13 = dr x := by rw [e1, m_up_at]
  rw [v, Int.tdiv_eq_ediv_of_nonneg (by omega), w32_le (by omega) (by omega), Int.tmod_eq_emod_of_nonneg (by omega)]
  exact ⟨fun q => absurd q (by omega), fun _ => ⟨by omega, k μ1 e1⟩⟩
theorem mo_draw {d : Nat} {μ : m_M} {x m : Int} (e : μ 34 0 54 = x) (hx : bt x) (hm : 0 < m ∧ m ≤ 100) {K : Int → m_M → Prop} (k : ∀ μ1, μ1 = m_up μ 34 0 54 (dr x) → K (dr x / 64 % m) μ1) : c_i G (d + 1) YX12_draw [vR 34 0, vI m] μ K := by
  unfold bt at hx
  have hd := dr_in x
  unfold bt at hd
  refine EX12_draw (fun μ1 e1 => ?_)
  rw [e, w64_le (z := 1103515245 * x) (by omega) (by omega), w64_le (by omega) (by omega), Int.tmod_eq_emod_of_nonneg (by omega), show (1103515245 * x + 12345) % 2147483648 = dr x from rfl] at e1
  have v : μ1 34 0 54 = dr x := by rw [e1, m_up_at]
  have hmod := Int.emod_lt_of_pos (dr x / 64) hm.1
  have hmod0 := Int.emod_nonneg (dr x / 64) (show m ≠ 0 by omega)
  rw [v, Int.tdiv_eq_ediv_of_nonneg (by omega), w64_le (by omega) (by omega), Int.tmod_eq_emod_of_nonneg (by omega), w32_le (by omega) (by omega)]
  exact ⟨by omega, k μ1 e1⟩
/-- weeks by the seed -/
noncomputable def p_cs (A : m_T) (B : Nat → Nat → Int) (x : Int) : Nat → (Nat → Nat → Int) × Int × Int
  | 0 => (B, x, 0)
  | k + 1 => if tw_wind A ≤ dr (p_cs A B x k).2.1 / 64 % 100 then ((p_week A (p_cs A B x k).1 0).1, dr (p_cs A B x k).2.1, (p_cs A B x k).2.2) else ((p_week A (p_cs A B x k).1 (1 + dr (dr (p_cs A B x k).2.1) / 64 % 3)).1, dr (dr (p_cs A B x k).2.1), (p_cs A B x k).2.2 + 1)
theorem p_cs_in {A : m_T} (hA : TA A) {B : Nat → Nat → Int} (hB : BI A B) {x : Int} (hx : bt x) : ∀ k : Nat, B 0 0 + (k : Int) ≤ 999 → BI A (p_cs A B x k).1 ∧ (p_cs A B x k).1 0 0 = B 0 0 + (k : Int) ∧ bt (p_cs A B x k).2.1 ∧ 0 ≤ (p_cs A B x k).2.2 ∧ (p_cs A B x k).2.2 ≤ (k : Int) := by
  intro k
  induction k with
  | zero => intro _; exact ⟨hB, by unfold p_cs; dsimp only; omega, hx, by unfold p_cs; dsimp only; omega, by unfold p_cs; dsimp only; omega⟩
  | succ k ih =>
    intro hk
    obtain ⟨h1, h2, h3, h4, h5⟩ := ih (by omega)
    unfold p_cs
    split
    · have := BI.week (gust := 0) hA h1 (by omega)
      exact ⟨this.1, by rw [this.2.1, h2]; omega, dr_in _, h4, by dsimp only; omega⟩
    · have := BI.week (gust := 1 + dr (dr (p_cs A B x k).2.1) / 64 % 3) hA h1 (by omega)
      exact ⟨this.1, by rw [this.2.1, h2]; omega, dr_in _, by dsimp only; omega, by dsimp only; omega⟩
theorem S_chance : SIM G YX11_chance YX12_chance [vI a1] := by
  intro d μ ⟨A, t, s, b, h⟩
  have hM := h.1.2.1
  have hA := h.1.1.2.2.2.1
  have hBI := h.2.1.1
  have hwk := hBI.1
  have hsd := h.2.2.2.2.1.1
  refine EX11_chance (fun X C R => ?_)
  by_cases hy : 1 ≤ a1 ∧ a1 ≤ 40 ∧ μ 10 0 0 + a1 ≤ 999
  · obtain ⟨N, rfl⟩ : ∃ N : Nat, a1 = (N : Int) := ⟨a1.toNat, by omega⟩
    have ew : w32 (μ 10 0 0 + (N : Int)) = μ 10 0 0 + (N : Int) := w32_le (by omega) (by omega)
    refine EX11_canPass ⟨fun q => absurd q (by omega), fun _ => ⟨fun q => absurd q (by omega), fun _ => ⟨fun q => absurd q (by rw [ew]; omega), fun _ => ⟨fun _ => ?_, z1⟩⟩⟩⟩
    obtain ⟨cu, n, f, hb, ⟨u1, u2, u3, u4⟩, hk⟩ := h.2.2.1
    refine cl_act hb.2.1 hb.1 u2 u1 hBI (fun μ1 hac => ?_)
    obtain ⟨ac10, ac34⟩ := hac.o.resolve_right (by omega)
    obtain ⟨P, hP⟩ : ∃ P, P = p_cs A (μ 10) (μ 1 0 13) := ⟨_, rfl⟩
    have hPin : ∀ k : Nat, μ 10 0 0 + (k : Int) ≤ 999 → BI A (P k).1 ∧ (P k).1 0 0 = μ 10 0 0 + (k : Int) ∧ bt (P k).2.1 ∧ 0 ≤ (P k).2.2 ∧ (P k).2.2 ≤ (k : Int) := fun k hk => by rw [hP]; exact p_cs_in hA hBI hsd.2 k hk
    have hPs : ∀ k : Nat, P (k + 1) = if tw_wind A ≤ dr (P k).2.1 / 64 % 100 then ((p_week A (P k).1 0).1, dr (P k).2.1, (P k).2.2) else ((p_week A (P k).1 (1 + dr (dr (P k).2.1) / 64 % 3)).1, dr (dr (P k).2.1), (P k).2.2 + 1) := fun k => by rw [hP]; rfl
    have hP0 : P 0 = (μ 10, μ 1 0 13, 0) := by rw [hP]; rfl
    have fin : ∀ μ2, (∀ x y z, x ≠ 5 → x ≠ 10 → ¬ (x = 1 ∧ y = 0 ∧ z = 13) → μ2 x y z = μ1 x y z) → μ2 10 = (P N).1 → μ2 1 0 13 = (P N).2.1 → c_i G (d + 100) YX12_chance [vR 34 0, vI (N : Int)] μ2 (fun r2 μ4 => r2 = (P N).2.2 ∧ RR μ4) := fun μ2 o2 e10 e13 => by
      have e34 : μ2 34 = μ 34 := by rw [← ac34]; funext y z; exact o2 34 y z (by omega) (by omega) (by omega)
      have h51 : 0 ≤ μ2 34 51 0 ∧ μ2 34 51 0 ≤ 8 := by rw [e34, h.2.1.w.2.2]; exact h.2.1.fir
      refine EX12_chance (fun X C R => mt_ah_y (w := μ 10 0 0) (by rw [e34]; exact h.2.1.w.1) ⟨by omega, by omega⟩ (by omega) (by omega) ⟨fun _ => mo_keep hb.2.2 hb.1 (by rw [e34]; exact u4) (by rw [e34]; exact u3) h51 (fun μ3 ham => ?_), z1⟩)
      obtain ⟨l0, i8, hM3, s54, w43⟩ := AM.l0 h e34 ham
      have L : ∀ (r k : Nat) (μ4 : m_M), k + r = N → (∀ x y z, ¬ inL 0 x y z → ¬ (x = 34 ∧ y = 0 ∧ z = 54) → μ4 x y z = μ3 x y z) → in8 (μ4 34 49 0) → beq (mK A (μ4 34) 0) (P k).1 → μ4 34 0 54 = (P k).2.1 → mW G X YX12_chance μ4 25 [some (vR 34 0), some (vI (N : Int)), some (vI (P k).2.2), some (vI (k : Int)), none] [] := by
        intro r
        induction r with
        | zero =>
          intro k μ4 hkN o4 j8 e4 e54
          have ek : k = N := by omega
          subst ek
          refine VX12_chance_25 C R ⟨fun _ => ⟨rfl, A, t, s, b, ?_⟩, fun q => absurd (by omega) q⟩
          have g : ∀ x y z, ¬ inL 0 x y z → ¬ inL (2 + (f + cu) % 20) x y z → ¬ (x = 34 ∧ y = 0 ∧ (z = 52 ∨ z = 53 ∨ z = 54)) → μ4 x y z = μ2 x y z := fun x y z a c e => (o4 x y z a (by omega)).trans (ham.1 x y z (by omega) c)
          have e410 : μ4 10 = (P k).1 := by rw [← e10]; funext y z; exact g 10 y z (by unfold inL; omega) (by unfold inL; omega) (by omega)
          have i3 := (hPin k (by omega)).2.2.1
          refine h.act hb hk hac o2 ham o4 ⟨by rw [e410]; exact (hPin k (by omega)).1, by rw [e410]; exact e4, j8⟩ ?_
          rw [g 1 0 13 (by unfold inL; omega) (by unfold inL; omega) (by omega), e54, e13]
          exact ⟨rfl, i3⟩
        | succ r ih =>
          intro k μ4 hkN o4 j8 e4 e54
          obtain ⟨b1, b2, b3, b4, b5⟩ := hPin k (by omega)
          have hB4 := e4.sy.BI b1
          have hM4 : MT μ4 b A := hM3.mv (fun x c hx => o4 34 x c (by unfold inL; omega) (by omega))
          have hb1 := hM4.2.1
          have hs := hPs k
          have ek1 : w32 ((k : Int) + 1) = ((k + 1 : Nat) : Int) := w32_s (by omega)
          have nx : ∀ (g : Int) (μ5 : m_M), 0 ≤ g ∧ g ≤ 3 → (∀ x y z, ¬ (x = 34 ∧ y = 0 ∧ z = 54) → μ5 x y z = μ4 x y z) → μ5 34 0 54 = (P (k + 1)).2.1 → (P (k + 1)).1 = (p_week A (P k).1 g).1 → c_v G (d + 99) YX12_ticks [vR 34 0, vI 0, vI g] μ5 (fun μ6 => ∀ x6 : Int, x6 = w32 ((k : Int) + 1) → mW G X YX12_chance μ6 25 [some (vR 34 0), some (vI (N : Int)), some (vI (P (k + 1)).2.2), some (vI x6), none] []) := fun g μ5 hg o5 e55 ePk => by
            have em : mK A (μ5 34) 0 = mK A (μ4 34) 0 := mK_congr _ (fun y z _ _ => o5 34 y z (by omega))
            have e49 : μ5 34 49 0 = μ4 34 49 0 := o5 34 49 0 (by omega)
            have w5 : μ5 34 43 0 = μ 10 0 0 + (k : Int) := by rw [o5 34 43 0 (by omega)]; exact e4.1.1.trans b2
            refine cm_ticksK (v := 0) (hM4.mv (fun x c hx => o5 34 x c (by omega))) (by decide) (by rw [em]; exact hB4) (by rw [e49]; exact j8) hg (by omega) (fun μ6 o6 j6 e6 _ _ _ x6 ex => ?_)
            rw [ek1] at ex
            subst ex
            rw [em] at e6
            refine ih (k + 1) μ6 (by omega) (fun x y z k1 k2 => ((o6 x y z k1).trans (o5 x y z k2)).trans (o4 x y z k1 k2)) j6 ?_ ?_
            · rw [ePk]; exact e6.tr (p_week_beq hA hB4 e4).1
            · rw [o6 34 0 54 (by unfold inL; omega)]; exact e55
          refine VX12_chance_25 C R ⟨fun q => absurd q (by omega), fun _ => mo_draw e54 b3 (by omega) (fun μ5 e5 => ?_)⟩
          have hM5 : MT μ5 b A := hM4.mv (fun x c hx => by rw [e5, m_up_ne _ _ (by omega)])
          have o5 : ∀ x y z, ¬ (x = 34 ∧ y = 0 ∧ z = 54) → μ5 x y z = μ4 x y z := fun x y z k1 => by rw [e5, m_up_ne _ _ k1]
          have v5 : μ5 34 0 54 = dr (P k).2.1 := by rw [e5, m_up_at]
          rw [hM5.1, Int.toNat_natCast, hM5.wind]
          refine ⟨⟨by omega, by omega⟩, fun q x4 e4' => ?_, fun q x8 e8 => ?_⟩
          · rw [if_pos q] at hs
            rw [w32_le (by omega) (by omega), Int.add_zero] at e4'
            have := nx 0 μ5 (by omega) o5 (by rw [hs]; exact v5) (by rw [hs])
            rw [hs] at this
            subst e4'
            exact this
          · rw [if_neg q] at hs
            rw [w32_le (by omega) (by omega)] at e8
            refine mo_draw v5 (dr_in _) (by omega) (fun μ6 e6 => ?_)
            rw [w32_le (by omega) (by omega)]
            have := nx (1 + dr (dr (P k).2.1) / 64 % 3) μ6 (by omega) (fun x y z k1 => by rw [e6, m_up_ne _ _ k1]; exact o5 x y z k1) (by rw [hs, e6, m_up_at]) (by rw [hs])
            rw [hs] at this
            subst e8
            exact this
      have l0' : beq (mK A (μ3 34) 0) (P 0).1 := by rw [hP0]; exact l0
      have := L N 0 μ3 (by omega) (fun _ _ _ _ _ => rfl) i8 l0' (by rw [hP0, s54]; exact hsd.1)
      rw [hP0] at this
      exact this
    have L : ∀ (r k : Nat) (μ2 : m_M), k + r = N → (∀ x y z, x ≠ 5 → x ≠ 10 → ¬ (x = 1 ∧ y = 0 ∧ z = 13) → μ2 x y z = μ1 x y z) → μ2 10 = (P k).1 → μ2 1 0 13 = (P k).2.1 → mW G X YX11_chance μ2 22 [some (vR 1 0), some (vI (N : Int)), some (vI (P k).2.2), some (vI (k : Int)), none] [] := by
      intro r
      induction r with
      | zero =>
        intro k μ2 hkN o2 e2 e13
        have ek : k = N := by omega
        subst ek
        exact VX11_chance_22 C R ⟨fun _ => fin μ2 o2 e2 e13, fun q => absurd (by omega) q⟩
      | succ r ih =>
        intro k μ2 hkN o2 e2 e13
        obtain ⟨b1, b2, b3, b4, b5⟩ := hPin k (by omega)
        have hs := hPs k
        have ek1 : w32 ((k : Int) + 1) = ((k + 1 : Nat) : Int) := w32_s (by omega)
        have nx : ∀ (g : Int) (μ3 : m_M), 0 ≤ g ∧ g ≤ 3 → (∀ x y z, ¬ (x = 1 ∧ y = 0 ∧ z = 13) → μ3 x y z = μ2 x y z) → μ3 1 0 13 = (P (k + 1)).2.1 → (P (k + 1)).1 = (p_week A (P k).1 g).1 → c_i G (d + 99) YX4_passWeek [vR 4 0, vR 10 0, vI g] μ3 (fun r6 μ5 => ∀ x7 : Int, x7 = w32 ((k : Int) + 1) → mW G X YX11_chance μ5 22 [some (vR 1 0), some (vI (N : Int)), some (vI (P (k + 1)).2.2), some (vI x7), none] []) := fun g μ3 hg o3 e33 ePk => by
          have e310 : μ3 10 = (P k).1 := by rw [← e2]; funext y z; exact o3 10 y z (by omega)
          refine c_passWeek (AC.ct h hb.2.1 hac (fun x y z k1 k2 k3 => (o3 x y z k3).trans (o2 x y z k1 k2 k3))) (by decide) (by rw [e310]; exact b1) hg (by rw [e310, b2]; omega) (fun μ5 o5 e5 x7 ex => ?_)
          rw [ek1] at ex
          subst ex
          rw [e310] at e5
          refine ih (k + 1) μ5 (by omega) (fun x y z k1 k2 k3 => ((o5 x y z k1 k2).trans (o3 x y z k3)).trans (o2 x y z k1 k2 k3)) (by rw [ePk]; exact e5) ?_
          rw [o5 1 0 13 (by omega) (by omega)]; exact e33
        refine VX11_chance_22 C R ⟨fun q => absurd q (by omega), fun _ => cl_draw e13 b3 (by omega) (fun μ3 e3 => ?_)⟩
        have o3 : ∀ x y z, ¬ (x = 1 ∧ y = 0 ∧ z = 13) → μ3 x y z = μ2 x y z := fun x y z k1 => by rw [e3, m_up_ne _ _ k1]
        have v3 : μ3 1 0 13 = dr (P k).2.1 := by rw [e3, m_up_at]
        have hct := AC.ct (μ2 := μ3) h hb.2.1 hac (fun x y z k1 k2 k3 => (o3 x y z k3).trans (o2 x y z k1 k2 k3))
        refine ⟨t, ?_, hct.1, ?_⟩
        · rw [o3 1 0 2 (by omega), o2 1 0 2 (by omega) (by omega) (by omega), hac.1 1 0 2 (by omega) (by omega) (by omega)]; exact h.1.2.2.1.1
        rw [hct.wind]
        refine ⟨fun q => ?_, fun q => cl_draw v3 (dr_in _) (by omega) (fun μ6 e6 x10 e10 => ?_)⟩
        · rw [if_pos q] at hs
          have := nx 0 μ3 (by omega) o3 (by rw [hs]; exact v3) (by rw [hs])
          rw [hs] at this
          exact this
        · rw [if_neg q] at hs
          rw [w32_le (by omega) (by omega)] at e10
          subst e10
          have := nx (1 + dr (dr (P k).2.1) / 64 % 3) μ6 (by omega) (fun x y z k1 => by rw [e6, m_up_ne _ _ k1]; exact o3 x y z k1) (by rw [hs, e6, m_up_at]) (by rw [hs])
          rw [hs] at this
          refine ⟨fun z => absurd z (by omega), fun _ x14 e14 => ?_⟩
          rw [w32_le (by omega) (by omega)] at e14
          subst e14
          exact this
    have := L N 0 μ1 (by omega) (fun _ _ _ _ _ _ => rfl) (by rw [hP0]; exact ac10) (by rw [hP0]; exact hac.1 1 0 13 (by omega) (by omega) (by omega))
    rw [hP0] at this
    exact this
  · have no : c_i G (d + 99) YX11_refuseWithNone [vR 1 0, vI 2] μ (fun r7 μ6 => c_i G (d + 100) YX12_chance [vR 34 0, vI a1] μ6 (fun r2 μ2 => r2 = r7 ∧ RR μ2)) := by
      refine cl_rN (w := 2) (by decide) (EX12_chance (fun X C R => mt_ah_n (w := μ 10 0 0) (by rw [ref34]; exact h.2.1.w.1) (fun z => by omega) hy ⟨z0, fun _ => mo_rf1 h (by decide) rfl⟩))
    refine EX11_canPass ⟨fun _ => ⟨z0, fun _ => no⟩, fun q1 => ⟨fun _ => ⟨z0, fun _ => no⟩, fun q2 => ⟨fun _ => ⟨z0, fun _ => no⟩, fun q => absurd q ?_⟩⟩⟩
    rw [w32_le (by omega) (by omega)]; omega
/-! undo -/
theorem S_undo : SIM G YX11_undo YX12_undo [] := by
  intro d μ ⟨A, t, s, b, h⟩
  obtain ⟨cu, n, f, hb, ⟨u1, u2, u3, u4⟩, hk⟩ := h.2.2.1
  refine EX11_undo (EX2_giveBack (by decide) ⟨fun q μ1 e1 μ2 e2 => ?_, fun q => ⟨z0, fun _ => cl_rF (w := 4) (by decide) ⟨Or.inl rfl, ?_⟩⟩⟩)
  · rw [u1] at q
    obtain ⟨c, rfl⟩ : ∃ c, cu = c + 1 := ⟨cu - 1, by omega⟩
    rw [u2, w32_le (z := (n : Int) + 20) (by omega) (by omega), w32_le (by omega) (by omega), show (n : Int) + 20 - 1 = ((n + 19 : Nat) : Int) by omega, tmod20] at e1
    rw [e1, m_up_ne (a := 6) (b := 0) (c := 2) _ _ (by omega), u1, w32_le (by omega) (by omega)] at e2
    have v1 : μ2 6 0 1 = (((n + 19) % 20 : Nat) : Int) := by rw [e2, m_up_ne _ _ (by omega), m_up_at]
    have v2 : μ2 6 0 2 = (c : Int) := by rw [e2, m_up_at]; omega
    have g2 : ∀ x y z, ¬ (x = 6 ∧ y = 0 ∧ (z = 1 ∨ z = 2)) → μ2 x y z = μ x y z := fun x y z a => by rw [e2, m_up_ne _ _ (by omega), m_up_ne _ _ (by omega)]
    obtain ⟨p, hp⟩ : ∃ p, p = (n + 19) % 20 := ⟨_, rfl⟩
    obtain ⟨v, hv⟩ : ∃ v, v = 2 + (f + c) % 20 := ⟨_, rfl⟩
    have L0 : R_lay μ A (12 + p) v := by
      have := hk 0 (by omega)
      rw [Nat.sub_zero, Nat.sub_zero, Nat.add_sub_cancel, ← hp, ← hv] at this
      exact this
    have ep : μ2 (12 + p) = μ (12 + p) := by funext y z; exact g2 _ y z (by omega)
    rw [v1, Int.toNat_natCast, ← hp]
    refine ⟨⟨by omega, by omega⟩, c_copyFrom (by decide) (past_cls p (by omega)) (by omega) (by rw [ep]; exact L0.1) (fun μ3 o3 e3 => ⟨fun _ => EX1_forget (fun μ4 e4 => ?_), z1⟩)⟩
    rw [ep] at e3
    have g4 : ∀ x y z, ¬ (x = 6 ∧ y = 0 ∧ (z = 1 ∨ z = 2)) → x ≠ 10 → ¬ (x = 7 ∧ y = 0 ∧ z = 3) → μ4 x y z = μ x y z := fun x y z a c e => by rw [e4, m_up_ne _ _ e, o3 x y z c]; exact g2 x y z a
    have e34 : μ4 34 = μ 34 := by funext y z; exact g4 34 y z (by omega) (by omega) (by omega)
    have e410 : μ4 10 = μ3 10 := by funext y z; rw [e4, m_up_ne _ _ (by omega)]
    have w61 : μ4 6 0 1 = (p : Int) := by rw [e4, m_up_ne _ _ (by omega), o3 6 0 1 (by omega), v1, hp]
    have w62 : μ4 6 0 2 = (c : Int) := by rw [e4, m_up_ne _ _ (by omega), o3 6 0 2 (by omega)]; exact v2
    refine EX12_undo ⟨fun _ μ5 e5 => ?_, fun z => absurd z (by rw [e34, u3]; omega)⟩
    rw [e34, u3, w32_le (by omega) (by omega), show ((c + 1 : Nat) : Int) - 1 = (c : Int) by omega] at e5
    have v5 : μ5 34 0 53 = (c : Int) := by rw [e5, m_up_at]
    have g5 : ∀ x y z, ¬ (x = 34 ∧ y = 0 ∧ z = 53) → μ5 x y z = μ4 x y z := fun x y z a => by rw [e5, m_up_ne _ _ a]
    rw [v5]
    have hfv : 0 ≤ μ5 34 51 v ∧ μ5 34 51 v ≤ 8 := by
      rw [g5 34 51 v (by omega), e34]
      have h9 := L0.1.2.2.1
      have h8 : m_cnt (fun c => μ (12 + p) 5 c != -1) 0 8 ≤ 8 := m_cnt_le _ _ _
      have h7 : μ 34 51 v = μ (12 + p) 0 9 := L0.2.1.1.2.2
      omega
    refine mo_slot hb.2.2 (by omega) (by rw [g5 34 0 52 (by omega), e34]; exact u4) ?_
    rw [← hv]
    refine cm_copiesK (A := A) (x := 0) (y := v) (by decide) (by omega) (by omega) hfv (fun μ6 o6 f6 q49 qb => ⟨rfl, A, t, s, b, ?_⟩)
    have em : mK A (μ5 34) v = mK A (μ 34) v := by rw [← e34]; exact mK_congr _ (fun y z _ _ => g5 34 y z (by omega))
    have e610 : μ6 10 = μ3 10 := by rw [← e410]; funext y z; rw [o6 10 y z (by unfold inL; omega)]; exact g5 10 y z (by omega)
    have E : ∀ x y z, ¬ (x = 6 ∧ y = 0 ∧ (z = 1 ∨ z = 2)) → x ≠ 10 → ¬ (x = 7 ∧ y = 0 ∧ z = 3) → ¬ (x = 34 ∧ y = 0 ∧ z = 53) → ¬ inL 0 x y z → μ6 x y z = μ x y z := fun x y z a c e g i => ((o6 x y z i).trans (g5 x y z g)).trans (g4 x y z a c e)
    obtain ⟨r1, r2, r3, r4, r5, r6, r7, r8, r9⟩ := h
    refine ⟨r1.rd (fun x y z q => E x y z (by unfold rd_town at q; omega) (by unfold rd_town at q; omega) (by unfold rd_town at q; omega) (by unfold rd_town at q; omega) (by unfold rd_town at q; unfold inL; omega)), ⟨?_, ?_, ?_⟩, ⟨c, p, f, ⟨by omega, by omega, by omega⟩, ⟨?_, ?_, ?_, ?_⟩, fun k hkc => ?_⟩, r4.rd (fun x y z q => E x y z (by unfold rd_tape at q; omega) (by unfold rd_tape at q; omega) (by unfold rd_tape at q; omega) (by unfold rd_tape at q; omega) (by unfold rd_tape at q; unfold inL; omega)), r5.rd (fun x y z q => E x y z (by unfold rd_misc at q; omega) (by unfold rd_misc at q; omega) (by unfold rd_misc at q; omega) (by unfold rd_misc at q; omega) (by unfold rd_misc at q; unfold inL; omega)), r6.rd (fun x y z q => E x y z (by unfold rd_see at q; omega) (by unfold rd_see at q; omega) (by unfold rd_see at q; omega) (by unfold rd_see at q; omega) (by unfold rd_see at q; unfold inL; omega)), Or.inl ?_, r8.rd (fun x y z q => E x y z (by unfold rd_img at q; omega) (by unfold rd_img at q; omega) (by unfold rd_img at q; omega) (by unfold rd_img at q; omega) (by unfold rd_img at q; unfold inL; omega)), R_own.rd r9 (fun y z => E 3 y z (by omega) (by omega) (by omega) (by omega) (by unfold inL; omega))⟩
    · rw [e610]; exact e3.sy.BI L0.1
    · rw [e610]
      rw [em] at qb
      exact (qb.tr L0.2.1).tr e3.sy
    · rw [q49, g5 34 49 v (by omega), e34]; exact L0.2.2
    · rw [o6 6 0 2 (by unfold inL; omega), g5 6 0 2 (by omega)]; exact w62
    · rw [o6 6 0 1 (by unfold inL; omega), g5 6 0 1 (by omega)]; exact w61
    · rw [o6 34 0 53 (by unfold inL; omega)]; exact v5
    · rw [o6 34 0 52 (by unfold inL; omega), g5 34 0 52 (by omega), e34]; exact u4
    · have := hk (k + 1) (by omega)
      rw [show 12 + (p + 19 - k) % 20 = 12 + (n + 19 - (k + 1)) % 20 by omega, show 2 + (f + (c - 1 - k)) % 20 = 2 + (f + (c + 1 - 1 - (k + 1))) % 20 by omega]
      refine this.mv ?_ (fun x y hx => E 34 x y (by omega) (by omega) (by omega) (by omega) (by unfold inL; omega))
      funext y z
      exact E _ y z (by omega) (by omega) (by omega) (by omega) (by unfold inL; omega)
    · rw [o6 7 0 3 (by unfold inL; omega), g5 7 0 3 (by omega), e4, m_up_at]
  · refine EX12_undo ⟨fun z => absurd ?_ z, fun _ => mo_rf0 h (by decide) rfl⟩
    rw [ref34, u3, ← u1]; exact q
end S8
