/-! ===== the class looks for the best ===== -/
def c_and (x y : Int) : Int := (Int32.ofInt x &&& Int32.ofInt y).toInt
def c_us (x y : Int) : Int := ((Int32.ofInt x).toUInt32 >>> ((Int32.ofInt y).toUInt32 &&& Int32.toUInt32 31)).toInt32.toInt
def c_w (z : Int) : Int := (Int32.ofInt z).toInt
def bc1 (a : Int) : Int := c_w (a - c_and (c_us a 1) 1431655765)
def bc2 (a : Int) : Int := c_w (c_and (bc1 a) 858993459 + c_and (c_us (bc1 a) 2) 858993459)
def bc3 (a : Int) : Int := c_and (c_w (bc2 a + c_us (bc2 a) 4)) 252645135
def bc4 (a : Int) : Int := c_w (bc3 a + c_us (bc3 a) 8)
def bc5 (a : Int) : Int := c_w (bc4 a + c_us (bc4 a) 16)
theorem bc_all : ∀ a, a < 256 → c_and (bc5 ((a : Nat) : Int)) 63 = (popc a : Int) := by decide +kernel
theorem c_bitCount {G : m_G} {d : Nat} {μ : m_M} {a : Nat} (ha : a < 256) {K : Int → m_M → Prop} (k : K (popc a : Int) μ) : c_i G (d + 1) YJ6_bitCount_0f7a4 [vI (a : Int)] μ K := by
  refine e_i (by decide) (Nat.le_of_ble_eq_true rfl) (fun X C R => VJ6_bitCount_0f7a4_0 C R (fun x1 e1 x2 e2 x3 e3 x4 e4 x5 e5 => ?_))
  have w : ∀ z, w32 z = c_w z := fun z => (w32_toInt z).symm
  have n : ∀ x y, i_and x y = c_and x y := i_and_def
  have u : ∀ x y, i_ushr x y = c_us x y := i_ushr_def
  simp only [w, n, u] at e1 e2 e3 e4 e5 ⊢
  have f1 : x1 = bc1 a := e1
  rw [f1] at e2
  have f2 : x2 = bc2 a := e2
  rw [f2] at e3
  have f3 : x3 = bc3 a := e3
  rw [f3] at e4
  have f4 : x4 = bc4 a := e4
  rw [f4] at e5
  have f5 : x5 = bc5 a := e5
  rw [f5, bc_all a ha]
  exact k
/-- one bit is taken out -/
theorem clr {x : Int} (hx : in8 x) {c : Nat} (hc : c < 8) : in8 (i_and x (i_xor (i_shl 1 (c : Int)) (-1))) ∧ ∀ j, j < 8 → tb (i_and x (i_xor (i_shl 1 (c : Int)) (-1))) j = (tb x j && !decide (c = j)) := by
  obtain ⟨a, rfl⟩ : ∃ a : Nat, x = (a : Int) := ⟨x.toNat, by have := hx.1; omega⟩
  have ha : a < 256 := by have := hx.2; omega
  rw [i_and_def, i_xor_def, Int32.ofInt_toInt, i_shl1 (by omega)]
  have e1 : (Int32.ofInt (-1)).toBitVec = BitVec.allOnes 32 := by decide
  have hz : ∀ j, j < 8 → (Int32.ofInt (a : Int) &&& (Int32.ofInt ((2 ^ c : Nat) : Int) ^^^ Int32.ofInt (-1))).toBitVec.toNat.testBit j = (a.testBit j && !decide (c = j)) := fun j hj => by
    have h2 : 2 ^ c < 2147483648 := Nat.lt_of_lt_of_le (Nat.pow_lt_pow_right (by decide) (show c < 8 from hc)) (by decide)
    rw [Int32.toBitVec_and, Int32.toBitVec_xor, e1, BitVec.toNat_and, Nat.testBit_and, bv_nat (by omega), BitVec.testBit_toNat, BitVec.getLsbD_xor, ← BitVec.testBit_toNat, bv_nat h2, Nat.testBit_two_pow, BitVec.getLsbD_allOnes]
    have e32 : decide (j < 32) = true := by simp; omega
    rw [e32, Bool.xor_true]
  have hle : (Int32.ofInt (a : Int) &&& (Int32.ofInt ((2 ^ c : Nat) : Int) ^^^ Int32.ofInt (-1))).toBitVec.toNat ≤ a := by
    rw [Int32.toBitVec_and, BitVec.toNat_and, bv_nat (by omega)]
    exact Nat.and_le_left
  generalize (Int32.ofInt (a : Int) &&& (Int32.ofInt ((2 ^ c : Nat) : Int) ^^^ Int32.ofInt (-1))) = z at hz hle ⊢
  have hv : z.toInt = (z.toBitVec.toNat : Int) := bv_int (by omega)
  refine ⟨?_, fun j hj => ?_⟩
  · unfold in8; rw [hv]; omega
  · rw [hv]
    unfold tb
    rw [Int.toNat_natCast, Int.toNat_natCast]
    exact hz j hj
def TV (A : m_T) (w h : Int) (c q : Nat) : Int := if p_crk A c h q w then -1 else p_ring A c h q w
theorem TV_in (A : m_T) (w h : Int) (c q : Nat) : -1 ≤ TV A w h c q ∧ TV A w h c q ≤ 99 := by
  unfold TV
  have := p_ring_in A c h q w
  split <;> omega
theorem TV_ok {A : m_T} {w h : Int} {c q : Nat} : TV A w h c q ≠ -1 ↔ p_crk A c h q w = false := by
  unfold TV
  have := p_ring_in A c h q w
  cases p_crk A c h q w <;> simp <;> omega
theorem TV_eq {A : m_T} {w h : Int} {c q : Nat} (hc : p_crk A c h q w = false) : TV A w h c q = p_ring A c h q w := by
  unfold TV; rw [hc]; rfl
def mxv (A : m_T) (w h : Int) (c : Nat) : Nat → Int
  | 0 => -1
  | q + 1 => if mxv A w h c q < TV A w h c q then TV A w h c q else mxv A w h c q
theorem mxv_in (A : m_T) (w h : Int) (c : Nat) : ∀ q, -1 ≤ mxv A w h c q ∧ mxv A w h c q ≤ 99 := by
  intro q
  induction q with
  | zero => unfold mxv; omega
  | succ q ih =>
    have := TV_in A w h c q
    unfold mxv
    split <;> omega
theorem mxv_ge (A : m_T) (w h : Int) (c : Nat) : ∀ n q, q < n → TV A w h c q ≤ mxv A w h c n := by
  intro n
  induction n with
  | zero => intro q hq; omega
  | succ n ih =>
    intro q hq
    unfold mxv
    by_cases y : q = n
    · subst y; split <;> omega
    · have := ih q (by omega)
      split <;> omega
def SI (A : m_T) (B : Nat → Nat → Int) (t kn rm : Nat) (w h : Int) (μ : m_M) : Prop := CT μ t A ∧ (μ 7 0 6 = (rm : Int) ∧ μ 7 0 7 = h ∧ μ 7 0 5 = w) ∧ (∀ c, c < 8 → B 3 c = (kn : Int) → (∀ q, q < rm → μ 7 11 (6 * c + q) = TV A w h c q) ∧ μ 7 12 c = mxv A w h c rm ∧ mxv A w h c rm ≠ -1) ∧ ∀ p l c, p < 6 → l < 8 → c < 8 → μ 7 13 ((p * 8 + l) * 8 + c) = 0 ∨ μ 7 13 ((p * 8 + l) * 8 + c) = if p_stk A l c (p_abs (μ 7 11 (6 * l + p - 1) - μ 7 11 (6 * c + p))) h w then 2 else 1
def FRs (μ μ1 : m_M) : Prop := ∀ x y z, x ≠ 5 → ¬ (x = 7 ∧ (y = 0 ∧ (z = 0 ∨ z = 1 ∨ z = 8) ∨ y = 3 ∨ y = 10 ∨ y = 13)) → μ1 x y z = μ x y z
theorem FRs.rf (μ : m_M) : FRs μ μ := fun _ _ _ _ _ => rfl
theorem FRs.tr {μ μ1 μ2 : m_M} (h : FRs μ μ1) (h2 : FRs μ1 μ2) : FRs μ μ2 := fun x y z a b => (h2 x y z a b).trans (h x y z a b)
theorem SI.mv {A : m_T} {B : Nat → Nat → Int} {t kn rm : Nat} {w h : Int} {μ μ1 : m_M} (hS : SI A B t kn rm w h μ) (f : FRs μ μ1) (h13 : ∀ i, μ1 7 13 i = μ 7 13 i) : SI A B t kn rm w h μ1 := by
  obtain ⟨s1, s2, s3, s4⟩ := hS
  have ht : t ≠ 5 ∧ t ≠ 7 := ⟨cls_ne s1.1 (show m_cls 5 = 5 from rfl) (by decide), cls_ne s1.1 (show m_cls 7 = 1 from rfl) (by decide)⟩
  refine ⟨s1.mv (f 4 0 0 (by decide) (by omega)) (fun y z => f t y z ht.1 (fun q => ht.2 q.1)), ?_, fun c hc hk => ?_, fun p l c hp hl hc => ?_⟩
  · rw [f 7 0 6 (by decide) (by omega), f 7 0 7 (by decide) (by omega), f 7 0 5 (by decide) (by omega)]; exact s2
  · rw [f 7 12 c (by decide) (by omega)]
    exact ⟨fun q hq => by rw [f 7 11 _ (by decide) (by omega)]; exact (s3 c hc hk).1 q hq, (s3 c hc hk).2⟩
  · rw [h13, f 7 11 _ (by decide) (by omega), f 7 11 _ (by decide) (by omega)]; exact s4 p l c hp hl hc
/-- whether a child sticks to the one on its left -/
def stL (A : m_T) (w h : Int) (row : Nat → Int) (c p : Nat) : Bool := decide (p ≠ 0) && (row (p - 1) != -1) && p_stk A (row (p - 1)).toNat c (p_abs (TV A w h (row (p - 1)).toNat (p - 1) - TV A w h c p)) h w
section SR
variable {G : m_G} {A : m_T} {B : Nat → Nat → Int} {t kn rm : Nat} {w h : Int}
theorem c_stl {d : Nat} {μ : m_M} (hB : BI A B) (hrm : rm ≤ 6) (hw : sm w) (hh : 0 ≤ h ∧ h ≤ 20) (hS : SI A B t kn rm w h μ) {p c : Nat} (hp : p < rm) (hc : c < 8) (hk : B 3 c = (kn : Int)) (hr : p = 0 ∨ μ 7 10 (p - 1) = -1 ∨ ∃ l : Nat, l < 8 ∧ μ 7 10 (p - 1) = (l : Int) ∧ B 3 l = (kn : Int)) {K : Int → m_M → Prop} (k : ∀ μ1, FRs μ μ1 → (∀ y z, y ≠ 13 → μ1 7 y z = μ 7 y z) → SI A B t kn rm w h μ1 → K (if stL A w h (μ 7 10) c p then 1 else 0) μ1) : c_i G (d + 7) YX1_sticksToLeft [vR 7 0, vI (c : Int), vI (p : Int)] μ K := by
  have k0 := k μ (FRs.rf μ) (fun _ _ _ => rfl) hS
  by_cases hp0 : p = 0
  · subst hp0
    refine EX1_sticksToLeft ⟨fun _ => ?_, fun q => absurd rfl q⟩
    unfold stL at k0
    simp at k0
    exact k0
  · obtain ⟨j, hj⟩ : ∃ j, p = j + 1 := ⟨p - 1, by omega⟩
    have ej : p - 1 = j := by omega
    have wj : w32 ((p : Int) - 1) = (j : Int) := by rw [w32_le (by omega) (by omega)]; omega
    rw [ej] at hr
    refine EX1_sticksToLeft ⟨fun q => absurd q (by omega), fun _ => ?_⟩
    rw [wj, Int.toNat_natCast]
    refine ⟨⟨by omega, by omega⟩, fun q => ⟨⟨by omega, by omega⟩, fun x1 e1 x2 e2 => ?_⟩, fun q => ?_⟩
    · obtain ⟨l, hl, el, hkl⟩ := (hr.resolve_left hp0).resolve_left q
      rw [el] at e1
      subst e1
      rw [w32_le (z := (p : Int) * 8) (by omega) (by omega), w32_le (z := (p : Int) * 8 + (l : Int)) (by omega) (by omega), w32_le (z := ((p : Int) * 8 + (l : Int)) * 8) (by omega) (by omega), w32_le (by omega) (by omega), show ((p : Int) * 8 + (l : Int)) * 8 + (c : Int) = (((p * 8 + l) * 8 + c : Nat) : Int) by omega] at e2
      subst e2
      have s4 := hS.2.2.2 p l c (by omega) hl hc
      have tl : μ 7 11 (6 * l + p - 1) = TV A w h l j := by rw [show 6 * l + p - 1 = 6 * l + j by omega]; exact (hS.2.2.1 l hl hkl).1 j (by omega)
      have tc : μ 7 11 (6 * c + p) = TV A w h c p := (hS.2.2.1 c hc hk).1 p hp
      have iL := TV_in A w h l j
      have iC := TV_in A w h c p
      have hst : stL A w h (μ 7 10) c p = p_stk A l c (p_abs (TV A w h l j - TV A w h c p)) h w := by
        unfold stL
        rw [ej, el, Int.toNat_natCast]
        have : ((l : Int) != -1) = true := by simp
        rw [this]
        simp [hp0]
      rw [hst] at k k0
      rw [tl, tc] at s4
      rw [Int.toNat_natCast]
      refine ⟨⟨by omega, by omega⟩, fun q2 => ⟨⟨by omega, by omega⟩, fun q3 => ?_, fun q3 => ?_⟩, fun q2 => ?_⟩
      · have s4 := s4.resolve_left q2
        by_cases y : p_stk A l c (p_abs (TV A w h l j - TV A w h c p)) h w = true
        · rw [if_pos y] at s4; exact absurd s4 q3
        · rw [if_neg y] at k0; exact k0
      · have s4 := s4.resolve_left q2
        by_cases y : p_stk A l c (p_abs (TV A w h l j - TV A w h c p)) h w = true
        · rw [if_pos y] at k0; exact k0
        · rw [if_neg y] at s4; omega
      · rw [w32_le (z := (l : Int) * 6) (by omega) (by omega), w32_le (z := (l : Int) * 6 + (p : Int)) (by omega) (by omega), w32_le (z := (l : Int) * 6 + (p : Int) - 1) (by omega) (by omega), show (l : Int) * 6 + (p : Int) - 1 = ((6 * l + p - 1 : Nat) : Int) by omega, w32_le (z := (c : Int) * 6) (by omega) (by omega), w32_le (z := (c : Int) * 6 + (p : Int)) (by omega) (by omega), show (c : Int) * 6 + (p : Int) = ((6 * c + p : Nat) : Int) by omega, Int.toNat_natCast, Int.toNat_natCast, tl, tc]
        refine ⟨⟨by omega, by omega⟩, fun x3 e3 => ⟨⟨by omega, by omega⟩, fun x4 e4 => ?_⟩⟩
        subst e3
        rw [w32_le (by omega) (by omega)] at e4
        subst e4
        rw [hS.2.1.2.1, hS.2.1.2.2]
        refine c_isStuck hS.1 (hB.nc l hl hkl) (hB.nc c hc hk) (by unfold sm; omega) (by unfold sm; omega) hw (fun μ5 o5 => ?_)
        have b1 : i_b (i_b 1) = 1 := by rw [i_b_eq, i_b_eq]; decide
        have b2 : i_b (i_b 2) = 2 := by rw [i_b_eq, i_b_eq]; decide
        rw [b1, b2]
        have put : ∀ (v : Int) (μ8 : m_M), v = (if p_stk A l c (p_abs (TV A w h l j - TV A w h c p)) h w then 2 else 1) → μ8 = m_up μ5 7 13 ((p * 8 + l) * 8 + c) v → FRs μ μ8 ∧ (∀ y z, y ≠ 13 → μ8 7 y z = μ 7 y z) ∧ SI A B t kn rm w h μ8 := fun v μ8 hv e8 => by
          have f8 : FRs μ μ8 := fun x y z a b => by rw [e8, m_up_ne _ _ (by omega)]; exact o5 x y z a
          have g8 : ∀ y z, y ≠ 13 → μ8 7 y z = μ 7 y z := fun y z hy => by rw [e8, m_up_ne _ _ (by omega)]; exact o5 7 y z (by decide)
          refine ⟨f8, g8, ?_⟩
          obtain ⟨s1, s2, s3, s4'⟩ := hS
          have ht : t ≠ 5 ∧ t ≠ 7 := ⟨cls_ne s1.1 (show m_cls 5 = 5 from rfl) (by decide), cls_ne s1.1 (show m_cls 7 = 1 from rfl) (by decide)⟩
          refine ⟨s1.mv (f8 4 0 0 (by decide) (by omega)) (fun y z => f8 t y z ht.1 (fun q => ht.2 q.1)), ?_, fun c' hc' hk' => ?_, fun p' l' c' hp' hl' hc' => ?_⟩
          · rw [g8 0 6 (by decide), g8 0 7 (by decide), g8 0 5 (by decide)]; exact s2
          · rw [g8 12 c' (by decide)]
            exact ⟨fun q hq => by rw [g8 11 _ (by decide)]; exact (s3 c' hc' hk').1 q hq, (s3 c' hc' hk').2⟩
          · rw [g8 11 _ (by decide), g8 11 _ (by decide)]
            by_cases y : (p' * 8 + l') * 8 + c' = (p * 8 + l) * 8 + c
            · have ep : p' = p := by omega
              have el : l' = l := by omega
              have ec : c' = c := by omega
              subst ep; subst el; subst ec
              rw [tl, tc]
              refine Or.inr ?_
              rw [e8, m_up_at, hv]
            · rw [e8, m_up_ne _ _ (by omega), o5 7 13 _ (by decide)]
              exact s4' p' l' c' hp' hl' hc'
        refine ⟨fun q3 => ⟨⟨by omega, by omega⟩, fun μ8 e8 => ?_⟩, fun q3 => ⟨⟨by omega, by omega⟩, fun μ8 e8 => ?_⟩⟩
        · have y : ¬ p_stk A l c (p_abs (TV A w h l j - TV A w h c p)) h w = true := fun z => by rw [if_pos z] at q3; exact absurd q3 (by decide)
          obtain ⟨f8, g8, s8⟩ := put 1 μ8 (by rw [if_neg y]) e8
          have kk := k μ8 f8 g8 s8
          rw [if_neg y] at kk
          have v8 : μ8 7 13 ((p * 8 + l) * 8 + c) = 1 := by rw [e8, m_up_at]
          rw [v8]
          exact ⟨⟨by omega, by omega⟩, fun _ => kk, fun z => absurd z (by decide)⟩
        · have y : p_stk A l c (p_abs (TV A w h l j - TV A w h c p)) h w = true := by
            apply Classical.byContradiction
            intro z
            rw [if_neg z] at q3
            exact q3 rfl
          obtain ⟨f8, g8, s8⟩ := put 2 μ8 (by rw [if_pos y]) e8
          have kk := k μ8 f8 g8 s8
          rw [if_pos y] at kk
          have v8 : μ8 7 13 ((p * 8 + l) * 8 + c) = 2 := by rw [e8, m_up_at]
          rw [v8]
          exact ⟨⟨by omega, by omega⟩, fun z => absurd rfl z, fun _ => kk⟩
    · have : stL A w h (μ 7 10) c p = false := by
        unfold stL
        rw [ej, q]
        simp
      rw [this] at k0
      exact k0
end SR
