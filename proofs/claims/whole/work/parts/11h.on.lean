/-! ===== on: an image is read ===== -/
def oN (x : Int) : Int := if x = 255 then -1 else x
def kT (T : Nat → Int) (c : Nat) : Int := oN (T (4 + 6 * c + 1))
def pT (T : Nat → Int) (c : Nat) : Int := oN (T (4 + 6 * c + 2))
def tT (T : Nat → Int) (c : Nat) : Int := oN (T (4 + 6 * c + 3))
def okC (A : m_T) (T : Nat → Int) (c : Nat) : Prop := (T (4 + 6 * c) = 0 ∧ (kT T c = -1 ∧ pT T c = -1 ∨ plOf A (kT T c) (pT T c) ∧ ∀ e, e < c → ¬ (kT T e = kT T c ∧ pT T e = pT T c)) ∧ tT T c = -1 ∧ T (4 + 6 * c + 4) = 0 ∧ T (4 + 6 * c + 5) = 0) ∨ (T (4 + 6 * c) = 1 ∧ kT T c = -1 ∧ pT T c = -1 ∧ (0 ≤ tT T c ∧ tT T c ≤ 99) ∧ T (4 + 6 * c + 4) ≤ 1)
theorem oN_in {x : Int} (h : 0 ≤ x ∧ x ≤ 255) : -1 ≤ oN x ∧ oN x ≤ 254 := by unfold oN; split <;> omega
section OC
variable {A : m_T} {T : Nat → Int} {c : Nat}
theorem nc1 (h : 1 < T (4 + 6 * c)) : ¬ okC A T c := fun z => by rcases z with ⟨z, -⟩ | ⟨z, -⟩ <;> omega
theorem nc2 (h : 1 < T (4 + 6 * c + 4)) : ¬ okC A T c := fun z => by rcases z with ⟨-, -, -, z, -⟩ | ⟨-, -, -, -, z⟩ <;> omega
theorem nc3 (h : ¬ kT T c = -1) (h2 : pT T c = -1) : ¬ okC A T c := fun z => by
  rcases z with ⟨-, z | ⟨⟨-, z, -⟩, -⟩, -⟩ | ⟨-, z, -⟩
  · exact h z.1
  · omega
  · exact h z
theorem nc4 (h : kT T c = -1) (h2 : ¬ pT T c = -1) : ¬ okC A T c := fun z => by
  rcases z with ⟨-, z | ⟨⟨z, -⟩, -⟩, -⟩ | ⟨-, -, z, -⟩
  · exact h2 z.2
  · omega
  · exact h2 z
theorem nc5 (h1 : T (4 + 6 * c) = 1) (h : ¬ kT T c = -1) : ¬ okC A T c := fun z => by rcases z with ⟨z, -⟩ | ⟨-, z, -⟩ <;> omega
theorem nc6 (h1 : T (4 + 6 * c) = 1) (h : ¬ (0 ≤ tT T c ∧ tT T c ≤ 99)) : ¬ okC A T c := fun z => by
  rcases z with ⟨z, -⟩ | ⟨-, -, -, z, -⟩
  · omega
  · exact h z
theorem nc7 (h1 : ¬ T (4 + 6 * c) = 1) (h : ¬ tT T c = -1) : ¬ okC A T c := fun z => by rcases z with ⟨-, -, z, -⟩ | ⟨z, -⟩ <;> omega
theorem nc8 (h1 : ¬ T (4 + 6 * c) = 1) (h : ¬ T (4 + 6 * c + 4) = 0) : ¬ okC A T c := fun z => by rcases z with ⟨-, -, -, z, -⟩ | ⟨z, -⟩ <;> omega
theorem nc9 (h1 : ¬ T (4 + 6 * c) = 1) (h : ¬ T (4 + 6 * c + 5) = 0) : ¬ okC A T c := fun z => by rcases z with ⟨-, -, -, -, z⟩ | ⟨z, -⟩ <;> omega
theorem nc10 (h1 : ¬ T (4 + 6 * c) = 1) (h : ¬ (kT T c = -1 ∧ pT T c = -1)) (h2 : ¬ plOf A (kT T c) (pT T c)) : ¬ okC A T c := fun z => by
  rcases z with ⟨-, z | ⟨z, -⟩, -⟩ | ⟨z, -⟩
  · exact h z
  · exact h2 z
  · exact h1 z
theorem nc11 (h1 : ¬ T (4 + 6 * c) = 1) (h : ¬ kT T c = -1) {e : Nat} (he : e < c) (h2 : kT T e = kT T c ∧ pT T e = pT T c) : ¬ okC A T c := fun z => by
  rcases z with ⟨-, z | ⟨-, z⟩, -⟩ | ⟨z, -⟩
  · exact h z.1
  · exact z e he h2
  · exact h1 z
end OC
section ON
variable {G : m_G} {a1 a2 a3 a4 : Int}
theorem c_bon {d : Nat} {μ : m_M} {x : Int} (hx : 0 ≤ x ∧ x ≤ 255) {K : Int → m_M → Prop} (k : K (oN x) μ) : c_i G (d + 1) YX3_byteOrNone [vI (sg x)] μ K := by
  refine EX3_byteOrNone (fun x1 e1 => ?_)
  rw [and_sg hx] at e1
  subst e1
  unfold oN at k
  refine ⟨fun q => ?_, fun q => ?_⟩
  · rw [if_neg q] at k; exact k
  · rw [if_pos q] at k; exact k
theorem mo_oN {d : Nat} {μ : m_M} {x : Int} {K : Int → m_M → Prop} (k : K (oN x) μ) : c_i G (d + 1) YX12_orNone [vI x] μ K := by
  unfold oN at k
  refine EX12_orNone ⟨fun q => ?_, fun q => ?_⟩
  · rw [if_neg q] at k; exact k
  · rw [if_pos q] at k; exact k
/-- a child is read, class -/
theorem c_rdC {d t n c : Nat} {μ : m_M} {A : m_T} {T : Nat → Int} (hA : TA A) (ht : m_cls t = 9) (h6 : μ t 0 6 = (tw_nk A : Int)) (hro : ∀ k, k < tw_nk A → μ t 6 k = tw_room A k) (hT : ∀ i, i < n → (0 ≤ T i ∧ T i ≤ 255) ∧ μ 1 1 i = sg (T i)) (hc : c < 8) (hn : 4 + 6 * c + 5 < n) (hn2 : n ≤ 1600) (hlt : ∀ e, e < c → μ 11 3 e = kT T e ∧ μ 11 4 e = pT T e) (hge : ∀ e, c ≤ e → e < 8 → μ 11 3 e = -1) {K : Int → m_M → Prop} (k1 : okC A T c → ∀ μ1, (∀ x y z, ¬ (x = 11 ∧ (3 ≤ y ∧ y ≤ 7) ∧ z = c) → μ1 x y z = μ x y z) → μ1 11 3 c = kT T c → μ1 11 4 c = pT T c → μ1 11 5 c = tT T c → μ1 11 6 c = T (4 + 6 * c + 4) → μ1 11 7 c = T (4 + 6 * c + 5) → K 1 μ1) (k0 : ¬ okC A T c → ∀ μ1, (∀ x y z, x ≠ 11 → μ1 x y z = μ x y z) → K 0 μ1) : c_i G (d + 3) YX3_readChild [vR 1 1, vI ((4 + 6 * c : Nat) : Int), vR t 0, vR 11 0, vI (c : Int)] μ K := by
  have g0 := hT (4 + 6 * c) (by omega)
  have g1 := hT (4 + 6 * c + 1) (by omega)
  have g2 := hT (4 + 6 * c + 2) (by omega)
  have g3 := hT (4 + 6 * c + 3) (by omega)
  have g4 := hT (4 + 6 * c + 4) (by omega)
  have g5 := hT (4 + 6 * c + 5) (by omega)
  have i1 := oN_in g1.1
  have i2 := oN_in g2.1
  have i3 := oN_in g3.1
  have s0 : sg (T (4 + 6 * c)) = 0 ↔ T (4 + 6 * c) = 0 := by unfold sg; split <;> omega
  have s1 : sg (T (4 + 6 * c)) = 1 ↔ T (4 + 6 * c) = 1 := by unfold sg; split <;> omega
  have hk3 := hA.2.1
  refine EX3_readChild ht (by decide) (fun X C R => ?_)
  have w1 : w32 (((4 + 6 * c : Nat) : Int) + 1) = ((4 + 6 * c + 1 : Nat) : Int) := w32_s (by omega)
  have w2 : w32 (((4 + 6 * c : Nat) : Int) + 2) = ((4 + 6 * c + 2 : Nat) : Int) := by rw [w32_le (by omega) (by omega)]; omega
  have w3 : w32 (((4 + 6 * c : Nat) : Int) + 3) = ((4 + 6 * c + 3 : Nat) : Int) := by rw [w32_le (by omega) (by omega)]; omega
  have w4 : w32 (((4 + 6 * c : Nat) : Int) + 4) = ((4 + 6 * c + 4 : Nat) : Int) := by rw [w32_le (by omega) (by omega)]; omega
  have w5 : w32 (((4 + 6 * c : Nat) : Int) + 5) = ((4 + 6 * c + 5 : Nat) : Int) := by rw [w32_le (by omega) (by omega)]; omega
  rw [w1, w2, w3, w4, w5]
  simp only [Int.toNat_natCast]
  rw [g1.2]
  refine ⟨⟨by omega, by omega⟩, c_bon g1.1 ⟨⟨by omega, by omega⟩, ?_⟩⟩
  rw [g2.2]
  refine c_bon g2.1 ⟨⟨by omega, by omega⟩, ?_⟩
  rw [g3.2]
  refine c_bon g3.1 ⟨⟨by omega, by omega⟩, fun x10 e10 => ⟨⟨by omega, by omega⟩, fun x11 e11 => ?_⟩⟩
  rw [g4.2, and_sg g4.1] at e10
  rw [g5.2, and_sg g5.1] at e11
  subst e10; subst e11
  rw [g0.2]
  have ek : oN (T (4 + 6 * c + 1)) = kT T c := rfl
  have ep : oN (T (4 + 6 * c + 2)) = pT T c := rfl
  have et : oN (T (4 + 6 * c + 3)) = tT T c := rfl
  rw [ek, ep, et]
  rw [ek] at i1
  rw [ep] at i2
  rw [et] at i3
  have fin : ∀ (l11 : Int) (l10 l12 : Int), (l11 = 1 ∧ okC A T c ∨ l11 = 0 ∧ ¬ okC A T c) → mW G X YX3_readChild μ 182 [some (vR 1 1), some (vI ((4 + 6 * c : Nat) : Int)), some (vR t 0), some (vR 11 0), some (vI (c : Int)), some (vI (kT T c)), some (vI (pT T c)), some (vI (tT T c)), some (vI (T (4 + 6 * c + 4))), some (vI (T (4 + 6 * c + 5))), some (vI l10), some (vI l11), some (vI l12)] [] := fun l11 l10 l12 hl => by
    refine VX3_readChild_182 C R ht (by decide) ?_
    rw [Int.toNat_natCast]
    refine ⟨⟨by omega, by omega⟩, fun μ1 e1 => ⟨⟨by omega, by omega⟩, fun μ2 e2 => ⟨⟨by omega, by omega⟩, fun μ3 e3 => ⟨⟨by omega, by omega⟩, fun μ4 e4 => ⟨⟨by omega, by omega⟩, fun μ5 e5 => ?_⟩⟩⟩⟩⟩
    have f : ∀ x y z, ¬ (x = 11 ∧ (3 ≤ y ∧ y ≤ 7) ∧ z = c) → μ5 x y z = μ x y z := fun x y z q => by rw [e5, m_up_ne _ _ (by omega), e4, m_up_ne _ _ (by omega), e3, m_up_ne _ _ (by omega), e2, m_up_ne _ _ (by omega), e1, m_up_ne _ _ (by omega)]
    rcases hl with ⟨hl, ok⟩ | ⟨hl, ok⟩
    · subst hl
      refine ⟨Or.inr rfl, k1 ok μ5 f ?_ ?_ ?_ ?_ ?_⟩
      · rw [e5, m_up_ne _ _ (by omega), e4, m_up_ne _ _ (by omega), e3, m_up_ne _ _ (by omega), e2, m_up_ne _ _ (by omega), e1, m_up_at]
      · rw [e5, m_up_ne _ _ (by omega), e4, m_up_ne _ _ (by omega), e3, m_up_ne _ _ (by omega), e2, m_up_at]
      · rw [e5, m_up_ne _ _ (by omega), e4, m_up_ne _ _ (by omega), e3, m_up_at]
      · rw [e5, m_up_ne _ _ (by omega), e4, m_up_at]
      · rw [e5, m_up_at]
    · subst hl
      exact ⟨Or.inl rfl, k0 ok μ5 (fun x y z q => f x y z (by omega))⟩
  have F0 : ∀ (l10 l12 : Int), ¬ okC A T c → _ := fun l10 l12 h => fin 0 l10 l12 (Or.inr ⟨rfl, h⟩)
  have F1 : ∀ (l10 l12 : Int), okC A T c → _ := fun l10 l12 h => fin 1 l10 l12 (Or.inl ⟨rfl, h⟩)
  -- 94: raw, seated
  have at94 : ∀ l10 : Int, T (4 + 6 * c) = 0 → (kT T c = -1 ∧ pT T c = -1 ∨ plOf A (kT T c) (pT T c) ∧ ∀ e, e < c → ¬ (kT T e = kT T c ∧ pT T e = pT T c)) → mW G X YX3_readChild μ 94 [some (vR 1 1), some (vI ((4 + 6 * c : Nat) : Int)), some (vR t 0), some (vR 11 0), some (vI (c : Int)), some (vI (kT T c)), some (vI (pT T c)), some (vI (tT T c)), some (vI (T (4 + 6 * c + 4))), some (vI (T (4 + 6 * c + 5))), some (vI l10), none, none] [] := fun l10 h0 hs => by
    have h01 : ¬ T (4 + 6 * c) = 1 := by omega
    exact VX3_readChild_94 C R ht (by decide) ⟨fun q => VX3_readChild_126 C R ht (by decide) (F0 _ _ (nc7 h01 q)), fun q => ⟨fun q2 => VX3_readChild_126 C R ht (by decide) (F0 _ _ (nc8 h01 q2)), fun q2 => ⟨fun q3 => VX3_readChild_126 C R ht (by decide) (F0 _ _ (nc9 h01 q3)), fun q3 => F1 _ _ (Or.inl ⟨h0, hs, q, q2, q3⟩)⟩⟩⟩
  -- 68: not outside
  have at68 : ¬ (kT T c = -1 ∧ pT T c = -1) → mW G X YX3_readChild μ 68 [some (vR 1 1), some (vI ((4 + 6 * c : Nat) : Int)), some (vR t 0), some (vR 11 0), some (vI (c : Int)), some (vI (kT T c)), some (vI (pT T c)), some (vI (tT T c)), some (vI (T (4 + 6 * c + 4))), some (vI (T (4 + 6 * c + 5))), none, none, none] [] := fun ho => by
    have n1 : ¬ T (4 + 6 * c) = 0 → ¬ okC A T c := fun h z => by
      rcases z with ⟨z, -⟩ | ⟨-, z, z', -⟩
      · exact h z
      · exact ho ⟨z, z'⟩
    refine VX3_readChild_68 C R ht (by decide) ?_
    rw [Int.toNat_natCast, g0.2]
    refine ⟨⟨by omega, by omega⟩, fun q => ?_, fun q => ?_⟩
    · rw [s0] at q
      have i149 : mW G X YX3_readChild μ 149 [some (vR 1 1), some (vI ((4 + 6 * c : Nat) : Int)), some (vR t 0), some (vR 11 0), some (vI (c : Int)), some (vI (kT T c)), some (vI (pT T c)), some (vI (tT T c)), some (vI (T (4 + 6 * c + 4))), some (vI (T (4 + 6 * c + 5))), some (vI 0), none, none] [] := by
        refine VX3_readChild_149 C R ht (by decide) ⟨⟨by omega, by omega⟩, fun _ => VX3_readChild_179 C R ht (by decide) (F0 _ _ (n1 q)), fun _ => ⟨fun _ => VX3_readChild_179 C R ht (by decide) (F0 _ _ (n1 q)), fun _ => VX3_readChild_179 C R ht (by decide) (F0 _ _ (n1 q))⟩⟩
      exact ⟨fun _ => i149, fun _ => ⟨fun _ => i149, fun _ => ⟨⟨by omega, by omega⟩, fun _ => VX3_readChild_179 C R ht (by decide) (F0 _ _ (n1 q)), fun _ => VX3_readChild_179 C R ht (by decide) (F0 _ _ (n1 q))⟩⟩⟩
    · rw [s0] at q
      have h01 : ¬ T (4 + 6 * c) = 1 := by omega
      have no : ∀ l10 : Int, ¬ okC A T c → mW G X YX3_readChild μ 126 [some (vR 1 1), some (vI ((4 + 6 * c : Nat) : Int)), some (vR t 0), some (vR 11 0), some (vI (c : Int)), some (vI (kT T c)), some (vI (pT T c)), some (vI (tT T c)), some (vI (T (4 + 6 * c + 4))), some (vI (T (4 + 6 * c + 5))), some (vI l10), none, some (vI 0)] [] := fun l10 h => VX3_readChild_126 C R ht (by decide) (F0 _ _ h)
      have npl : ∀ {P : Prop}, (plOf A (kT T c) (pT T c) → P) → ¬ P → ¬ okC A T c := fun a b => nc10 h01 ho (fun z => b (a z))
      refine EX3_isFree ht (by decide) ⟨fun q1 => ⟨fun _ => no 0 (npl (fun z => z.1.1) (by omega)), z0⟩, fun q1 => ⟨fun q2 => ⟨fun _ => no 0 (npl (fun z => z.1.2) (by rw [h6] at q2; omega)), z0⟩, fun q2 => ⟨fun q3 => ⟨fun _ => no 0 (npl (fun z => z.2.1) (by omega)), z0⟩, fun q3 => ?_⟩⟩⟩
      rw [h6] at q2
      obtain ⟨kn, hkn⟩ : ∃ kn : Nat, kT T c = (kn : Int) := ⟨(kT T c).toNat, by omega⟩
      rw [hkn, Int.toNat_natCast, hro kn (by omega), ← hkn]
      refine ⟨⟨by omega, by omega⟩, fun q4 => ⟨fun _ => no 0 (npl (fun z => z.2.2) (by rw [hkn, Int.toNat_natCast]; omega)), z0⟩, fun q4 => c_who (by decide) ⟨fun q5 => ⟨fun _ => no 0 ?_, z0⟩, fun q5 => ⟨z1, fun _ => at94 0 q (Or.inr ⟨⟨⟨by omega, by omega⟩, by omega, by rw [hkn, Int.toNat_natCast]; omega⟩, fun e he hz => ?_⟩)⟩⟩⟩
      · rcases b_who_spec (μ 11) (kT T c) (pT T c) with ⟨z, -⟩ | ⟨e, z, he8, z3, z4, -⟩
        · exact absurd z q5
        · by_cases he : e < c
          · rw [(hlt e he).1] at z3
            rw [(hlt e he).2] at z4
            exact nc11 h01 (by omega) he ⟨z3, z4⟩
          · have := hge e (by omega) he8
            omega
      · rcases b_who_spec (μ 11) (kT T c) (pT T c) with ⟨-, z⟩ | ⟨e, z, -⟩
        · exact z e (by omega) ⟨by rw [(hlt e he).1]; exact hz.1, by rw [(hlt e he).2]; exact hz.2⟩
        · omega
  refine ⟨fun q => at68 (fun z => q z.1), fun q => ⟨fun q2 => at68 (fun z => q2 z.2), fun q2 => ⟨⟨by omega, by omega⟩, fun q3 => ?_, fun q3 => at94 1 (s0.mp q3) (Or.inl ⟨q, q2⟩)⟩⟩⟩
  rw [s0] at q3
  have i149 : ¬ okC A T c → mW G X YX3_readChild μ 149 [some (vR 1 1), some (vI ((4 + 6 * c : Nat) : Int)), some (vR t 0), some (vR 11 0), some (vI (c : Int)), some (vI (kT T c)), some (vI (pT T c)), some (vI (tT T c)), some (vI (T (4 + 6 * c + 4))), some (vI (T (4 + 6 * c + 5))), some (vI 1), none, none] [] := fun h => VX3_readChild_149 C R ht (by decide) ⟨⟨by omega, by omega⟩, fun _ => VX3_readChild_179 C R ht (by decide) (F0 _ _ h), fun _ => ⟨fun _ => VX3_readChild_179 C R ht (by decide) (F0 _ _ h), fun _ => VX3_readChild_179 C R ht (by decide) (F0 _ _ h)⟩⟩
  have nz : (T (4 + 6 * c) = 1 → ¬ okC A T c) → ¬ okC A T c := fun h z => by
    rcases z with ⟨z, -⟩ | ⟨z, z'⟩
    · exact q3 z
    · exact h z (Or.inr ⟨z, z'⟩)
  refine ⟨fun q4 => i149 (nz (fun h1 => nc6 h1 (by omega))), fun q4 => ⟨fun q5 => i149 (nz (fun h1 => nc6 h1 (by omega))), fun q5 => ⟨⟨by omega, by omega⟩, fun q6 => VX3_readChild_179 C R ht (by decide) (F0 _ _ (nz (fun h1 => absurd (s1.mpr h1) q6))), fun q6 => ⟨fun q7 => VX3_readChild_179 C R ht (by decide) (F0 _ _ (nc2 q7)), fun q7 => F1 _ _ (Or.inr ⟨s1.mp q6, q, q2, ⟨by omega, by omega⟩, by omega⟩)⟩⟩⟩⟩
/-- a child is read, reference -/
theorem mo_rdC {d b n c : Nat} {μ : m_M} {A : m_T} {T : Nat → Int} (hM : MT μ b A) (hT : ∀ i, i < n → (0 ≤ T i ∧ T i ≤ 255) ∧ μ 34 1 i = T i) (hc : c < 8) (hn : 4 + 6 * c + 5 < n) (hn2 : n ≤ 1600) (hlt : ∀ e, e < c → μ 34 45 (8 + e) = kT T e ∧ μ 34 46 (8 + e) = pT T e) {K : Int → m_M → Prop} (k1 : okC A T c → ∀ μ1, (∀ x y z, ¬ (x = 34 ∧ ((45 ≤ y ∧ y ≤ 48) ∧ z = 8 + c ∨ y = 49 ∧ z = 1)) → μ1 x y z = μ x y z) → μ1 34 45 (8 + c) = kT T c → μ1 34 46 (8 + c) = pT T c → μ1 34 47 (8 + c) = tT T c → μ1 34 48 (8 + c) = T (4 + 6 * c + 5) → μ1 34 49 1 = i_or (μ 34 49 1) (if T (4 + 6 * c + 4) = 1 then i_shl 1 (c : Int) else 0) → K 1 μ1) (k0 : ¬ okC A T c → ∀ μ1, ofL 1 μ μ1 → K 0 μ1) : c_i G (d + 4) YX12_childOn [vR 34 0, vI (c : Int), vI ((4 + 6 * c : Nat) : Int)] μ K := by
  have g0 := hT (4 + 6 * c) (by omega)
  have g1 := hT (4 + 6 * c + 1) (by omega)
  have g2 := hT (4 + 6 * c + 2) (by omega)
  have g3 := hT (4 + 6 * c + 3) (by omega)
  have g4 := hT (4 + 6 * c + 4) (by omega)
  have g5 := hT (4 + 6 * c + 5) (by omega)
  have w1 : w32 (((4 + 6 * c : Nat) : Int) + 1) = ((4 + 6 * c + 1 : Nat) : Int) := w32_s (by omega)
  have w2 : w32 (((4 + 6 * c : Nat) : Int) + 2) = ((4 + 6 * c + 2 : Nat) : Int) := by rw [w32_le (by omega) (by omega)]; omega
  have w3 : w32 (((4 + 6 * c : Nat) : Int) + 3) = ((4 + 6 * c + 3 : Nat) : Int) := by rw [w32_le (by omega) (by omega)]; omega
  have w4 : w32 (((4 + 6 * c : Nat) : Int) + 4) = ((4 + 6 * c + 4 : Nat) : Int) := by rw [w32_le (by omega) (by omega)]; omega
  have w5 : w32 (((4 + 6 * c : Nat) : Int) + 5) = ((4 + 6 * c + 5 : Nat) : Int) := by rw [w32_le (by omega) (by omega)]; omega
  have ek : oN (T (4 + 6 * c + 1)) = kT T c := rfl
  have ep : oN (T (4 + 6 * c + 2)) = pT T c := rfl
  have et : oN (T (4 + 6 * c + 3)) = tT T c := rfl
  refine EX12_childOn (fun X C R x1 ex1 => ?_)
  rw [show w32 (8 + (c : Int)) = ((8 + c : Nat) : Int) by rw [w32_le (by omega) (by omega)]; omega] at ex1
  subst ex1
  rw [w1, w2, w3, w4, w5]
  simp only [Int.toNat_natCast]
  rw [g0.2, g1.2]
  -- the loop over those before
  have L : ∀ (l4 : Int) (μ1 : m_M), ¬ T (4 + 6 * c) = 1 → (∀ x y z, ¬ (x = 34 ∧ ((45 ≤ y ∧ y ≤ 48) ∧ z = 8 + c ∨ y = 49 ∧ z = 1)) → μ1 x y z = μ x y z) → μ1 34 45 (8 + c) = kT T c → μ1 34 46 (8 + c) = pT T c → (¬ okC A T c → K 0 μ1) → ((kT T c = -1 ∨ ∀ e, e < c → ¬ (kT T e = kT T c ∧ pT T e = pT T c)) → K 1 μ1) → ∀ r e : Nat, e + r = c → (kT T c = -1 ∨ ∀ e', e' < e → ¬ (kT T e' = kT T c ∧ pT T e' = pT T c)) → mW G X YX12_childOn μ1 275 [some (vR 34 0), some (vI (c : Int)), some (vI ((4 + 6 * c : Nat) : Int)), some (vI ((8 + c : Nat) : Int)), some (vI l4), some (vI (e : Int))] [] := by
    intro l4 μ1 h01 f m45 m46 no yes r
    induction r with
    | zero =>
      intro e he hq
      refine VX12_childOn_275 C R ⟨fun _ => yes ?_, fun q => absurd (by omega) q⟩
      rw [show e = c by omega] at hq
      exact hq
    | succ r ih =>
      intro e he hq
      refine VX12_childOn_275 C R ⟨fun q => absurd q (by omega), fun _ => ?_⟩
      rw [show w32 (8 + (e : Int)) = ((8 + e : Nat) : Int) by rw [w32_le (by omega) (by omega)]; omega, w32_s (by omega), Int.toNat_natCast, Int.toNat_natCast, m45, m46, f 34 45 (8 + e) (by omega), f 34 46 (8 + e) (by omega), (hlt e (by omega)).1, (hlt e (by omega)).2]
      refine ⟨⟨by omega, by omega⟩, fun q x1 e1 => ?_, fun q => ⟨⟨by omega, by omega⟩, ⟨by omega, by omega⟩, fun q2 x1 e1 => ?_, fun q2 => ⟨⟨by omega, by omega⟩, ⟨by omega, by omega⟩, fun q3 x1 e1 => ?_, fun q3 => no (nc11 h01 q (by omega) ⟨q2, q3⟩)⟩⟩⟩
      · subst e1; exact ih (e + 1) (by omega) (Or.inl q)
      · subst e1
        refine ih (e + 1) (by omega) (Or.inr (fun e' he' => ?_))
        by_cases z : e' = e
        · subst z; exact fun y => q2 y.1
        · exact (hq.resolve_left q) e' (by omega)
      · subst e1
        refine ih (e + 1) (by omega) (Or.inr (fun e' he' => ?_))
        by_cases z : e' = e
        · subst z; exact fun y => q3 y.2
        · exact (hq.resolve_left q) e' (by omega)
  refine ⟨⟨by omega, by omega⟩, fun hf => ?_, fun hf => ?_⟩
  all_goals
    refine ⟨⟨by omega, by omega⟩, mo_oN ⟨⟨by omega, by omega⟩, fun μ5 e5 => ⟨⟨by omega, by omega⟩, ?_⟩⟩⟩
    rw [ek] at e5
    rw [show μ5 34 1 (4 + 6 * c + 2) = T (4 + 6 * c + 2) by rw [e5, m_up_ne _ _ (by omega)]; exact g2.2]
    refine mo_oN ⟨⟨by omega, by omega⟩, fun μ8 e8 => ⟨⟨by omega, by omega⟩, ?_⟩⟩
    rw [ep] at e8
    rw [show μ8 34 1 (4 + 6 * c + 3) = T (4 + 6 * c + 3) by rw [e8, m_up_ne _ _ (by omega), e5, m_up_ne _ _ (by omega)]; exact g3.2]
    refine mo_oN ⟨⟨by omega, by omega⟩, fun μ11 e11 => ⟨⟨by omega, by omega⟩, ⟨by omega, by omega⟩, ?_⟩⟩
    rw [et] at e11
    rw [show μ11 34 1 (4 + 6 * c + 5) = T (4 + 6 * c + 5) by rw [e11, m_up_ne _ _ (by omega), e8, m_up_ne _ _ (by omega), e5, m_up_ne _ _ (by omega)]; exact g5.2]
    refine fun μ12 e12 => ⟨⟨by omega, by omega⟩, ?_⟩
    have f12 : ∀ x y z, ¬ (x = 34 ∧ (45 ≤ y ∧ y ≤ 48) ∧ z = 8 + c) → μ12 x y z = μ x y z := fun x y z q => by rw [e12, m_up_ne _ _ (by omega), e11, m_up_ne _ _ (by omega), e8, m_up_ne _ _ (by omega), e5, m_up_ne _ _ (by omega)]
    have v45 : μ12 34 45 (8 + c) = kT T c := by rw [e12, m_up_ne _ _ (by omega), e11, m_up_ne _ _ (by omega), e8, m_up_ne _ _ (by omega), e5, m_up_at]
    have v46 : μ12 34 46 (8 + c) = pT T c := by rw [e12, m_up_ne _ _ (by omega), e11, m_up_ne _ _ (by omega), e8, m_up_at]
    have v47 : μ12 34 47 (8 + c) = tT T c := by rw [e12, m_up_ne _ _ (by omega), e11, m_up_at]
    have v48 : μ12 34 48 (8 + c) = T (4 + 6 * c + 5) := by rw [e12, m_up_at]
    have r4 : μ12 34 1 (4 + 6 * c + 4) = T (4 + 6 * c + 4) := (f12 34 1 _ (by omega)).trans g4.2
    have r49 : μ12 34 49 1 = μ 34 49 1 := f12 34 49 1 (by omega)
    rw [r4, r49]
    have st : ∀ (y : Int) (μ13 : m_M), y = (if T (4 + 6 * c + 4) = 1 then i_shl 1 (c : Int) else 0) → μ13 = m_up μ12 34 49 1 (i_or (μ 34 49 1) y) → (∀ x y z, ¬ (x = 34 ∧ ((45 ≤ y ∧ y ≤ 48) ∧ z = 8 + c ∨ y = 49 ∧ z = 1)) → μ13 x y z = μ x y z) ∧ μ13 34 45 (8 + c) = kT T c ∧ μ13 34 46 (8 + c) = pT T c ∧ μ13 34 47 (8 + c) = tT T c ∧ μ13 34 48 (8 + c) = T (4 + 6 * c + 5) ∧ μ13 34 1 (4 + 6 * c) = T (4 + 6 * c) ∧ μ13 34 1 (4 + 6 * c + 4) = T (4 + 6 * c + 4) ∧ (okC A T c → K 1 μ13) ∧ (¬ okC A T c → K 0 μ13) ∧ MT μ13 b A := fun y μ13 hy e13 => by
      have f : ∀ x y z, ¬ (x = 34 ∧ ((45 ≤ y ∧ y ≤ 48) ∧ z = 8 + c ∨ y = 49 ∧ z = 1)) → μ13 x y z = μ x y z := fun x y z q => by rw [e13, m_up_ne _ _ (by omega)]; exact f12 x y z (by omega)
      have a45 : μ13 34 45 (8 + c) = kT T c := by rw [e13, m_up_ne _ _ (by omega)]; exact v45
      have a46 : μ13 34 46 (8 + c) = pT T c := by rw [e13, m_up_ne _ _ (by omega)]; exact v46
      have a47 : μ13 34 47 (8 + c) = tT T c := by rw [e13, m_up_ne _ _ (by omega)]; exact v47
      have a48 : μ13 34 48 (8 + c) = T (4 + 6 * c + 5) := by rw [e13, m_up_ne _ _ (by omega)]; exact v48
      refine ⟨f, a45, a46, a47, a48, (f 34 1 _ (by omega)).trans g0.2, (f 34 1 _ (by omega)).trans g4.2, fun ok => k1 ok μ13 f a45 a46 a47 a48 (by rw [e13, m_up_at, hy]), fun ok => k0 ok μ13 (fun x y z q => f x y z (fun z' => q (by unfold inL; omega))), hM.mv (fun x z hx => f 34 x z (by omega))⟩
    refine ⟨fun h4 μ13 e13 => ?_, fun h4 μ13 e13 => ?_⟩
  -- raw
  · obtain ⟨f, a45, a46, a47, a48, a0, a4, yes, no, hM13⟩ := st 0 μ13 (by rw [if_neg h4]) e13
    rw [a45, a46, a47, a48, a0, a4]
    have fin : (kT T c = -1 ∧ pT T c = -1 ∨ plOf A (kT T c) (pT T c)) → tT T c = -1 → T (4 + 6 * c + 5) = 0 → ¬ 1 < T (4 + 6 * c) → ¬ 1 < T (4 + 6 * c + 4) → mW G X YX12_childOn μ13 275 [some (vR 34 0), some (vI (c : Int)), some (vI ((4 + 6 * c : Nat) : Int)), some (vI ((8 + c : Nat) : Int)), some (vI 0), some (vI 0)] [] := fun hs q5 q7 q1 q2 => by
      refine L 0 μ13 hf f a45 a46 no (fun hq => yes (Or.inl ⟨by omega, ?_, q5, by omega, q7⟩)) c 0 (by omega) (Or.inr (fun e' he' => by omega))
      rcases hs with hs | hs
      · exact Or.inl hs
      · refine Or.inr ⟨hs, ?_⟩
        rcases hq with z | z
        · have := hs.1; omega
        · exact z
    refine ⟨⟨by omega, by omega⟩, fun q => no (nc1 q), fun q1 => ⟨⟨by omega, by omega⟩, fun q => no (nc2 q), fun q2 => ⟨⟨by omega, by omega⟩, fun q3 => ⟨⟨by omega, by omega⟩, fun q4 => ⟨⟨by omega, by omega⟩, fun q => no (nc7 hf q), fun q5 => ⟨⟨by omega, by omega⟩, fun q => absurd q h4, fun q6 => ⟨⟨by omega, by omega⟩, fun q7 => ⟨⟨by omega, by omega⟩, fun z => absurd z q3, fun _ => ⟨⟨by omega, by omega⟩, ⟨by omega, by omega⟩, ?_⟩⟩, fun q => no (nc9 hf q)⟩⟩⟩, fun q => no (nc3 q3 q)⟩, fun q3 => ⟨⟨by omega, by omega⟩, fun q => no (nc4 q3 q), fun q4 => ⟨⟨by omega, by omega⟩, fun q => no (nc7 hf q), fun q5 => ⟨⟨by omega, by omega⟩, fun q => absurd q h4, fun q6 => ⟨⟨by omega, by omega⟩, fun q7 => ⟨⟨by omega, by omega⟩, fun _ => fin (Or.inl ⟨q3, q4⟩) q5 q7 q1 q2, fun z => absurd q3 z⟩, fun q => no (nc9 hf q)⟩⟩⟩⟩⟩⟩⟩
    by_cases hp : plOf A (kT T c) (pT T c)
    · exact mt_po_y hM13 hp ⟨fun _ => fin (Or.inr hp) q5 q7 q1 q2, z1⟩
    · exact mt_po_n hM13 hp ⟨z0, fun _ => no (nc10 hf (fun z => q3 z.1) hp)⟩
  · obtain ⟨f, a45, a46, a47, a48, a0, a4, yes, no, hM13⟩ := st (i_shl 1 (c : Int)) μ13 (by rw [if_pos h4]) e13
    rw [a45, a46, a47, a48, a0, a4]
    have n8 : K 0 μ13 := no (nc8 hf (by omega))
    refine ⟨⟨by omega, by omega⟩, fun q => n8, fun q1 => ⟨⟨by omega, by omega⟩, fun q => n8, fun q2 => ⟨⟨by omega, by omega⟩, fun q3 => ⟨⟨by omega, by omega⟩, fun q4 => ⟨⟨by omega, by omega⟩, fun q => n8, fun q5 => ⟨⟨by omega, by omega⟩, fun q => n8, fun q6 => absurd h4 q6⟩⟩, fun q => n8⟩, fun q3 => ⟨⟨by omega, by omega⟩, fun q => n8, fun q4 => ⟨⟨by omega, by omega⟩, fun q => n8, fun q5 => ⟨⟨by omega, by omega⟩, fun q => n8, fun q6 => absurd h4 q6⟩⟩⟩⟩⟩⟩
  -- fired
  · obtain ⟨f, a45, a46, a47, a48, a0, a4, yes, no, hM13⟩ := st 0 μ13 (by rw [if_neg h4]) e13
    rw [a45, a46, a47, a0, a4]
    refine ⟨⟨by omega, by omega⟩, fun q => no (nc1 q), fun q1 => ⟨⟨by omega, by omega⟩, fun q => no (nc2 q), fun q2 => ⟨⟨by omega, by omega⟩, fun q3 => ⟨⟨by omega, by omega⟩, fun q4 => ⟨⟨by omega, by omega⟩, fun q => no (nc5 hf q), fun q5 => absurd q5 q3⟩, fun q => no (nc3 q3 q)⟩, fun q3 => ⟨⟨by omega, by omega⟩, fun q => no (nc4 q3 q), fun q4 => ⟨⟨by omega, by omega⟩, fun q => absurd q3 q, fun q5 => ⟨⟨by omega, by omega⟩, ?_⟩⟩⟩⟩⟩⟩
    by_cases hz : 0 ≤ tT T c ∧ tT T c ≤ 99
    · exact mo_is_y hz ⟨z1, fun _ => yes (Or.inr ⟨hf, q3, q4, hz, by omega⟩)⟩
    · exact mo_is_n hz ⟨fun _ => no (nc6 hf hz), z0⟩
  · obtain ⟨f, a45, a46, a47, a48, a0, a4, yes, no, hM13⟩ := st (i_shl 1 (c : Int)) μ13 (by rw [if_pos h4]) e13
    rw [a45, a46, a47, a0, a4]
    refine ⟨⟨by omega, by omega⟩, fun q => no (nc1 q), fun q1 => ⟨⟨by omega, by omega⟩, fun q => no (nc2 q), fun q2 => ⟨⟨by omega, by omega⟩, fun q3 => ⟨⟨by omega, by omega⟩, fun q4 => ⟨⟨by omega, by omega⟩, fun q => no (nc5 hf q), fun q5 => absurd q5 q3⟩, fun q => no (nc3 q3 q)⟩, fun q3 => ⟨⟨by omega, by omega⟩, fun q => no (nc4 q3 q), fun q4 => ⟨⟨by omega, by omega⟩, fun q => absurd q3 q, fun q5 => ⟨⟨by omega, by omega⟩, ?_⟩⟩⟩⟩⟩⟩
    by_cases hz : 0 ≤ tT T c ∧ tT T c ≤ 99
    · exact mo_is_y hz ⟨z1, fun _ => yes (Or.inr ⟨hf, q3, q4, hz, by omega⟩)⟩
    · exact mo_is_n hz ⟨fun _ => no (nc6 hf hz), z0⟩
end ON
