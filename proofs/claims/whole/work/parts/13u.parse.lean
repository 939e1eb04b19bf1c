/-! ===== the class reads a whole text ===== -/
def PT0 (T : Nat → Int) (L : Nat) (n e : Nat) (D : m_D) (CC : List Int) (R : (Int × Int) ⊕ (Nat × m_D × List Int)) : Prop := (tLf T L e = -1 ∧ tTk T L e = 284 ∧ R = .inr (n, D, CC)) ∨ (tLf T L e ≠ -1 ∧ R = .inl (1, tLf T L e))
def PT (G : m_G) (T : Nat → Int) (L b : Nat) : Nat → Nat → Nat → m_D → List Int → (Int × Int) ⊕ (Nat × m_D × List Int) → Prop
  | 0, n, e, D, CC, R => PT0 T L n e D CC R
  | r + 1, n, e, D, CC, R => PT0 T L n e D CC R ∨ ∃ r1, (n < 80 ∧ tLf T L e = -1 ∧ tTk T L e ≠ 284 ∧ STO G T L b e D CC r1) ∧ ((∃ x, sSt T L (n + 1) r1 = .inl x ∧ R = .inl x) ∨ ∃ y, sSt T L (n + 1) r1 = .inr y ∧ PT G T L b r (n + 1) y.1 y.2.1 y.2.2 R)
theorem PT_0 {G : m_G} {T : Nat → Int} {L b r n e : Nat} {D : m_D} {CC : List Int} {R : (Int × Int) ⊕ (Nat × m_D × List Int)} (h : PT0 T L n e D CC R) : PT G T L b r n e D CC R := by
  cases r with
  | zero => exact h
  | succ r => exact Or.inl h
def CE (T : Nat → Int) (L t : Nat) (μ : m_M) (R : (Int × Int) ⊕ (Nat × m_D × List Int)) : Prop := match R with
  | .inl x => CF t x.1 x.2 μ
  | .inr y => (∃ e, CU T L t y.2.1 y.2.2 e μ) ∧ μ t 0 10 = (y.1 : Int) ∧ y.1 ≤ 80
def okR (R : (Int × Int) ⊕ (Nat × m_D × List Int)) : Int := match R with
  | .inl _ => 0
  | .inr _ => 1
theorem sSt_r {T : Nat → Int} {L n : Nat} {r : PR (m_D × List Int)} {y : Nat × m_D × List Int} (h : sSt T L n r = .inr y) (hn : n = 80) : L ≤ tAt T L y.1 := by
  unfold sSt at h
  cases r with
  | inl x => cases h
  | inr w =>
    have h : sB (sEnd T L n w.1) (fun e _ => .inr (e, w.2)) = .inr y := h
    unfold sEnd at h
    split at h
    · cases h
    · split at h
      · cases h
      · split at h
        · cases h
        · cases h
          show L ≤ tAt T L (tEn T L w.1)
          omega
section PA
variable {G : m_G} {T : Nat → Int} {L t b : Nat}
theorem x_loop {d : Nat} {X : m_X} {K : Int → m_M → Prop} (C : mC G X YX6_parse (d + 88)) (R : r_i G X K) {μ0 : m_M} {a2 : Int} (ht : t = 32 ∨ t = 33) : ∀ (r n e : Nat) (D : m_D) (CC : List Int) (μ : m_M), n + r = 80 → NN t μ → ofD t μ0 μ → (n = 80 → L ≤ tAt T L e) → CX T L t D CC e μ → (tLf T L e = -1 → μ t 0 10 = (n : Int)) → (∀ μ1 R, ofD t μ0 μ1 → PT G T L b r n e D CC R → CE T L t μ1 R → K (okR R) μ1) → mW G X YX6_parse μ 29 [some (vR 2 0), some (vR 1 1), some (vI a2), some (vR t 0), some (vI (n : Int))] [] := by
  intro r
  induction r with
  | zero =>
    intro n e D CC μ hr hN f h80 h h10 kk
    have he := h80 (by omega)
    rcases h with ⟨hf, h⟩ | ⟨hf, h⟩
    · exact VX6_parse_29 C R (cls9 ht) ⟨fun _ => ⟨fun z => absurd h.2.2.2.2.1 z, fun _ => kk μ _ f (PT_0 (Or.inl ⟨hf, tk_end he, rfl⟩)) ⟨⟨e, h⟩, h10 hf, by show n ≤ 80; omega⟩⟩, fun z => by omega⟩
    · exact absurd (tLf_end he) hf
  | succ r ih =>
    intro n e D CC μ hr hN f h80 h h10 kk
    rcases h with ⟨hf, h⟩ | ⟨hf, h⟩
    · have h7 := h.2.2.2.2.1
      have h4 := h.2.2.2.2.2.2.2.1
      refine VX6_parse_29 C R (cls9 ht) ⟨fun z => by omega, fun _ => ⟨fun z => ⟨fun z2 => absurd h7 z2, fun _ => kk μ _ f (PT_0 (Or.inl ⟨hf, by rw [← h4]; exact z, rfl⟩)) ⟨⟨e, h⟩, h10 hf, by show n ≤ 80; omega⟩⟩, fun z => ⟨fun z2 => absurd h7 z2, fun _ => ?_⟩⟩⟩
      have hE : tTk T L e ≠ 284 := fun y => z (by rw [h4]; exact y)
      refine x_statement (b := b) ht hN (by omega) (h10 hf) h hE (fun μ1 r1 f1 s1 o1 c1 x2 e2 => ?_)
      rw [w32_s (by omega)] at e2
      subst e2
      cases hs : sSt T L (n + 1) r1 with
      | inl x =>
        rw [hs] at o1
        have g1 : CF t x.1 x.2 μ1 := o1.2
        have k0 := kk μ1 (.inl x) (f.tr f1) (Or.inr ⟨r1, ⟨by omega, hf, hE, s1⟩, Or.inl ⟨x, hs, rfl⟩⟩) g1
        have n7 : ¬ μ1 3 0 7 = 0 := by rw [g1.2.2.1]; exact g1.2.2.2.1
        refine VX6_parse_29 C R (cls9 ht) ⟨fun _ => ⟨fun _ => k0, fun z => absurd z n7⟩, fun _ => ⟨fun z => by rw [g1.2.2.2.2.2] at z; exact absurd z (by decide), fun _ => ⟨fun _ => ⟨fun _ => k0, fun z => absurd z n7⟩, fun z => absurd z n7⟩⟩⟩
      | inr y =>
        rw [hs] at o1
        have g1 : CX T L t y.2.1 y.2.2 y.1 μ1 := o1.2
        exact ih (n + 1) y.1 y.2.1 y.2.2 μ1 (by omega) o1.1 (f.tr f1) (fun z => sSt_r hs z) g1 (fun _ => c1 y hs) (fun μ2 R2 f2 p2 e2 => kk μ2 R2 f2 (Or.inr ⟨r1, ⟨by omega, hf, hE, s1⟩, Or.inr ⟨y, hs, p2⟩⟩) e2)
    · have n7 : ¬ μ 3 0 7 = 0 := by rw [h.2.2.1]; exact h.2.2.2.1
      have k0 := kk μ _ f (PT_0 (Or.inr ⟨hf, rfl⟩)) h
      exact VX6_parse_29 C R (cls9 ht) ⟨fun z => by omega, fun _ => ⟨fun z => by rw [h.2.2.2.2.2] at z; exact absurd z (by decide), fun _ => ⟨fun _ => ⟨fun _ => k0, fun z => absurd z n7⟩, fun z => absurd z n7⟩⟩⟩
def D0 : m_D := ([], [], (0, 0, 0), fun _ => none)
theorem m_fl_ne {μ : m_M} {o w n : Nat} {v : Int} {a b c : Nat} (h : ¬ (a = o ∧ b = w)) : m_fl μ o w n v a b c = μ a b c := if_neg (fun z => h ⟨z.1, z.2.1⟩)
theorem m_fl_at {μ : m_M} {o w n : Nat} {v : Int} {c : Nat} (h : c < n) : m_fl μ o w n v o w c = v := if_pos ⟨rfl, rfl, h⟩
theorem c_parse {d : Nat} {μ : m_M} (ht : t = 32 ∨ t = 33) (hL : L ≤ 1600) (hT : ∀ i, i < L → (0 ≤ T i ∧ T i ≤ 255) ∧ μ 1 1 i = sg (T i)) (hO : R_own μ) {K : Int → m_M → Prop} (kk : ∀ μ1 R, ofD t μ μ1 → PT G T L b 80 0 0 D0 [] R → CE T L t μ1 R → K (okR R) μ1) : c_i G (d + 88) YX6_parse [vR 2 0, vR 1 1, vI (L : Int), vR t 0] μ K := by
  have hc := cls9 ht
  have a14 : m_ar t 14 = (0, 4) := by rcases ht with z | z <;> subst z <;> rfl
  have a15 : m_ar t 15 = (0, 4) := by rcases ht with z | z <;> subst z <;> rfl
  refine EX6_parse hc (fun X C R μ1 e1 => ⟨t, ?_, hc, EX10_clear (d := d + 86) hc (fun μ2 e2 μ3 e3 μ4 e4 μ5 e5 μ6 e6 μ7 e7 μ8 e8 => c_fill (d := d + 85) a14 (by decide) (by decide) (c_fill (d := d + 85) a15 (by decide) (by decide) ?_))⟩)
  · rw [e1, m_up_at]; omega
  obtain ⟨μ9, e9⟩ : ∃ μ9, μ9 = m_fl (m_fl μ8 t 14 4 0) t 15 4 0 := ⟨_, rfl⟩
  rw [← e9]
  intro μ10 e10
  refine EX7_start (fun ν1 u1 ν2 u2 ν3 u3 ν4 u4 ν5 u5 ν6 u6 => ?_)
  have g8 : ∀ x y z, ¬ (x = t ∧ y = 0) → ¬ (x = 2 ∧ y = 0 ∧ z = 1) → μ8 x y z = μ x y z := fun x y z p q => by
    rw [e8, m_up_ne _ _ (by omega), e7, m_up_ne _ _ (by omega), e6, m_up_ne _ _ (by omega), e5, m_up_ne _ _ (by omega), e4, m_up_ne _ _ (by omega), e3, m_up_ne _ _ (by omega), e2, m_up_ne _ _ (by omega), e1, m_up_ne _ _ (by omega)]
  have v8 : ∀ z, (z = 3 ∨ (6 ≤ z ∧ z ≤ 10) ∨ z = 12) → μ8 t 0 z = 0 := fun z hz => by
    by_cases w12 : z = 12
    · rw [w12, e8, m_up_at]
    rw [e8, m_up_ne _ _ (by omega)]
    by_cases w10 : z = 10
    · rw [w10, e7, m_up_at]
    rw [e7, m_up_ne _ _ (by omega)]
    by_cases w9 : z = 9
    · rw [w9, e6, m_up_at]
    rw [e6, m_up_ne _ _ (by omega)]
    by_cases w8 : z = 8
    · rw [w8, e5, m_up_at]
    rw [e5, m_up_ne _ _ (by omega)]
    by_cases w7 : z = 7
    · rw [w7, e4, m_up_at]
    rw [e4, m_up_ne _ _ (by omega)]
    by_cases w6 : z = 6
    · rw [w6, e3, m_up_at]
    rw [e3, m_up_ne _ _ (by omega)]
    have w3 : z = 3 := by omega
    rw [w3, e2, m_up_at]
  have x21 : μ8 2 0 1 = 100 * (t : Int) := by
    rw [e8, m_up_ne _ _ (by omega), e7, m_up_ne _ _ (by omega), e6, m_up_ne _ _ (by omega), e5, m_up_ne _ _ (by omega), e4, m_up_ne _ _ (by omega), e3, m_up_ne _ _ (by omega), e2, m_up_ne _ _ (by omega), e1, m_up_at]; omega
  have g9 : ∀ x y z, ¬ (x = t ∧ (y = 14 ∨ y = 15)) → μ9 x y z = μ8 x y z := fun x y z p => by rw [e9, m_fl_ne (by omega), m_fl_ne (by omega)]
  have v14 : ∀ q, q < 4 → μ9 t 14 q = 0 ∧ μ9 t 15 q = 0 := fun q hq => ⟨by rw [e9, m_fl_ne (by omega), m_fl_at hq], by rw [e9, m_fl_at hq]⟩
  have g16 : ∀ x y z, ¬ (x = 3 ∧ y = 0) → ¬ (x = 2 ∧ y = 0 ∧ z = 3) → ν6 x y z = μ9 x y z := fun x y z p q => by
    rw [u6, m_up_ne _ _ (by omega), u5, m_up_ne _ _ (by omega), u4, m_up_ne _ _ (by omega), u3, m_up_ne _ _ (by omega), u2, m_up_ne _ _ (by omega), u1, m_up_ne _ _ (by omega), e10, m_up_ne _ _ (by omega)]
  have x1 : ν6 3 0 1 = 101 := by rw [u6, m_up_ne _ _ (by omega), u5, m_up_ne _ _ (by omega), u4, m_up_ne _ _ (by omega), u3, m_up_ne _ _ (by omega), u2, m_up_ne _ _ (by omega), u1, m_up_at]; decide
  have x2 : ν6 3 0 2 = (L : Int) := by rw [u6, m_up_ne _ _ (by omega), u5, m_up_ne _ _ (by omega), u4, m_up_ne _ _ (by omega), u3, m_up_ne _ _ (by omega), u2, m_up_at, if_neg (by omega)]
  have x3 : ν6 3 0 3 = ((0 : Nat) : Int) := by rw [u6, m_up_ne _ _ (by omega), u5, m_up_ne _ _ (by omega), u4, m_up_ne _ _ (by omega), u3, m_up_at]; rfl
  have x4 : ν6 3 0 4 = 284 := by rw [u6, m_up_ne _ _ (by omega), u5, m_up_ne _ _ (by omega), u4, m_up_at]
  have x7 : ν6 3 0 7 = 0 := by rw [u6, m_up_ne _ _ (by omega), u5, m_up_at]
  have x8 : ν6 3 0 8 = -1 := by rw [u6, m_up_at]
  have x23 : ν6 2 0 3 = 0 := by rw [u6, m_up_ne _ _ (by omega), u5, m_up_ne _ _ (by omega), u4, m_up_ne _ _ (by omega), u3, m_up_ne _ _ (by omega), u2, m_up_ne _ _ (by omega), u1, m_up_ne _ _ (by omega), e10, m_up_at]
  have y21 : ν6 2 0 1 = 100 * (t : Int) := by rw [g16 2 0 1 (by omega) (by omega), g9 2 0 1 (by omega)]; exact x21
  have fD : ofD t μ ν6 := fun x y z a b c => by rw [g16 x y z c (by omega), g9 x y z (by omega), g8 x y z (by omega) (by omega)]
  have vt : ∀ z, (z = 3 ∨ (6 ≤ z ∧ z ≤ 10) ∨ z = 12) → ν6 t 0 z = 0 := fun z hz => by rw [g16 t 0 z (by omega) (by omega), g9 t 0 z (by omega)]; exact v8 z hz
  have vq : ∀ q, q < 4 → ν6 t 14 q = 0 ∧ ν6 t 15 q = 0 := fun q hq => by rw [g16 t 14 q (by omega) (by omega), g16 t 15 q (by omega) (by omega)]; exact v14 q hq
  have hB : CB T L ν6 := ⟨⟨x1, x2⟩, fun i hi => by rw [fD 1 1 i (by omega) (by omega) (by omega)]; exact hT i hi, fun i hi => by rw [fD 3 1 i (by omega) (by omega) (by omega)]; exact hO i hi, hL⟩
  have nn : ∀ ν7, of3 ν6 ν7 → NN t ν7 := fun ν7 f => by unfold NN; rw [f t 0 3 (by omega), f t 0 6 (by omega), vt 3 (by omega), vt 6 (by omega)]; omega
  have go : ∀ ν7, of3 ν6 ν7 → CX T L t D0 [] 0 ν7 → mW G X YX6_parse ν7 29 [some (vR 2 0), some (vR 1 1), some (vI (L : Int)), some (vR t 0), some (vI 0)] [] := fun ν7 f7 h7 => x_loop (b := b) (μ0 := μ) C R ht 80 0 0 D0 [] ν7 (by omega) (nn ν7 f7) (fD.tr (ofD.r3 f7)) (fun z => by omega) h7 (fun _ => by rw [f7 t 0 10 (by omega)]; exact vt 10 (by omega)) kk
  refine c_next (d := d + 83) (e := 0) hB (Nat.zero_le _) x7 x8 x3 (Or.inl ⟨rfl, x4⟩) (fun hf ν7 f7 a7 a8 a4 => go ν7 f7 (Or.inr ⟨hf, ht, ⟨?_, ?_⟩, a7, by decide, a8, a4⟩)) (fun ν7 f7 a7 aT => go ν7 f7 (Or.inl ⟨aT.1, ⟨hB.of f7, ht, ?_, ?_⟩, ⟨?_, rfl, Nat.le_refl _⟩, ⟨⟨⟨?_, fun i x hx => ?_⟩, ⟨?_, fun i x hx => ?_⟩, ⟨?_, ?_, ?_⟩, fun q hq => ⟨fun _ => ?_, fun y hy => nomatch hy⟩⟩, ⟨⟨Nat.zero_le _, fun x hx => absurd hx (List.not_mem_nil)⟩, ⟨Nat.zero_le _, fun x hx => absurd hx (List.not_mem_nil)⟩, by decide, fun q y hy => nomatch hy⟩⟩, Nat.zero_le _, a7, aT⟩))
  · rw [f7 2 0 1 (by omega)]; exact y21
  · rw [f7 t 0 12 (by omega), vt 12 (by omega)]; decide
  · rw [f7 2 0 1 (by omega)]; exact y21
  · rw [f7 2 0 3 (by omega)]; exact x23
  · rw [f7 t 0 12 (by omega)]; exact vt 12 (by omega)
  · rw [f7 t 0 3 (by omega)]; exact vt 3 (by omega)
  · have hx : ([] : List (List Nat × Int × Int))[i]? = some x := hx
    rw [List.getElem?_nil] at hx; cases hx
  · rw [f7 t 0 6 (by omega)]; exact vt 6 (by omega)
  · have hx : ([] : List (List Nat × Int))[i]? = some x := hx
    rw [List.getElem?_nil] at hx; cases hx
  · rw [f7 t 0 7 (by omega)]; exact vt 7 (by omega)
  · rw [f7 t 0 8 (by omega)]; exact vt 8 (by omega)
  · rw [f7 t 0 9 (by omega)]; exact vt 9 (by omega)
  · rw [f7 t 14 q (by omega), f7 t 15 q (by omega)]; exact vq q hq
end PA
