/-! ===== letters ===== -/
def B256 : List Nat := [1, 256, 65536, 16777216, 4294967296, 1099511627776, 281474976710656]
def W27 : List Nat := [14348907, 531441, 19683, 729, 27, 1]
theorem lw_all : ∀ k, k < 6 → (m_lwL.getD k 0).toInt = ((W27.getD k 1 : Nat) : Int) ∧ 0 < W27.getD k 1 ∧ W27.getD k 1 ≤ 14348907 := by decide +kernel
theorem b256_pow : ∀ m, m < 6 → 2 ^ (8 * m) = B256.getD m 1 := by decide +kernel
theorem nm_facts {l : List Nat} (h : isNm l) : (∀ k, k < 6 → nm27 l 5 / W27.getD k 1 % 27 = l.getD k 0) ∧ (∀ i, i < l.length → 0 < nm256 l 0 / B256.getD i 1) ∧ nm256 l 0 / B256.getD l.length 1 = 0 ∧ (∀ k, k < l.length → nm256 l 0 / B256.getD (l.length - 1 - k) 1 % 256 = 96 + l.getD k 0) ∧ nm256 l 0 < 281474976710656 ∧ nm27 l 5 < 387420489 ∧ (∀ k, k < 6 → l.getD k 0 ≤ 26) ∧ ∀ k, k < 6 → l.length ≤ k → l.getD k 0 = 0 := by
  obtain ⟨h1, h2, h3⟩ := h
  have K6 : ∀ k, k < 6 → k = 0 ∨ k = 1 ∨ k = 2 ∨ k = 3 ∨ k = 4 ∨ k = 5 := fun k hk => by omega
  match l, h1, h2, h3 with
  | [a], _, _, h3 =>
    have ha := h3 a (by simp)
    refine ⟨fun k hk => ?_, fun i hi => ?_, ?_, fun k hk => ?_, ?_, ?_, fun k hk => ?_, fun k hk hl => ?_⟩
    · rcases K6 k hk with e | e | e | e | e | e <;> subst e <;> simp [nm27, W27] <;> omega
    · have : i = 0 := by simp at hi; omega
      subst this; simp [nm256, B256]; omega
    · simp [nm256, B256]; omega
    · have : k = 0 := by simp at hk; omega
      subst this; simp [nm256, B256]; omega
    · simp [nm256]; omega
    · simp [nm27]; omega
    · rcases K6 k hk with e | e | e | e | e | e <;> subst e <;> simp <;> omega
    · rcases K6 k hk with e | e | e | e | e | e <;> subst e <;> simp at hl ⊢
  | [a, b], _, _, h3 =>
    have ha := h3 a (by simp)
    have hb := h3 b (by simp)
    refine ⟨fun k hk => ?_, fun i hi => ?_, ?_, fun k hk => ?_, ?_, ?_, fun k hk => ?_, fun k hk hl => ?_⟩
    · rcases K6 k hk with e | e | e | e | e | e <;> subst e <;> simp [nm27, W27] <;> omega
    · have : i = 0 ∨ i = 1 := by simp at hi; omega
      rcases this with e | e <;> subst e <;> simp [nm256, B256] <;> omega
    · simp [nm256, B256]; omega
    · have : k = 0 ∨ k = 1 := by simp at hk; omega
      rcases this with e | e <;> subst e <;> simp [nm256, B256] <;> omega
    · simp [nm256]; omega
    · simp [nm27]; omega
    · rcases K6 k hk with e | e | e | e | e | e <;> subst e <;> simp <;> omega
    · rcases K6 k hk with e | e | e | e | e | e <;> subst e <;> simp at hl ⊢
  | [a, b, c], _, _, h3 =>
    have ha := h3 a (by simp)
    have hb := h3 b (by simp)
    have hc := h3 c (by simp)
    refine ⟨fun k hk => ?_, fun i hi => ?_, ?_, fun k hk => ?_, ?_, ?_, fun k hk => ?_, fun k hk hl => ?_⟩
    · rcases K6 k hk with e | e | e | e | e | e <;> subst e <;> simp [nm27, W27] <;> omega
    · have : i = 0 ∨ i = 1 ∨ i = 2 := by simp at hi; omega
      rcases this with e | e | e <;> subst e <;> simp [nm256, B256] <;> omega
    · simp [nm256, B256]; omega
    · have : k = 0 ∨ k = 1 ∨ k = 2 := by simp at hk; omega
      rcases this with e | e | e <;> subst e <;> simp [nm256, B256] <;> omega
    · simp [nm256]; omega
    · simp [nm27]; omega
    · rcases K6 k hk with e | e | e | e | e | e <;> subst e <;> simp <;> omega
    · rcases K6 k hk with e | e | e | e | e | e <;> subst e <;> simp at hl ⊢
  | [a, b, c, d], _, _, h3 =>
    have ha := h3 a (by simp)
    have hb := h3 b (by simp)
    have hc := h3 c (by simp)
    have hd := h3 d (by simp)
    refine ⟨fun k hk => ?_, fun i hi => ?_, ?_, fun k hk => ?_, ?_, ?_, fun k hk => ?_, fun k hk hl => ?_⟩
    · rcases K6 k hk with e | e | e | e | e | e <;> subst e <;> simp [nm27, W27] <;> omega
    · have : i = 0 ∨ i = 1 ∨ i = 2 ∨ i = 3 := by simp at hi; omega
      rcases this with e | e | e | e <;> subst e <;> simp [nm256, B256] <;> omega
    · simp [nm256, B256]; omega
    · have : k = 0 ∨ k = 1 ∨ k = 2 ∨ k = 3 := by simp at hk; omega
      rcases this with e | e | e | e <;> subst e <;> simp [nm256, B256] <;> omega
    · simp [nm256]; omega
    · simp [nm27]; omega
    · rcases K6 k hk with e | e | e | e | e | e <;> subst e <;> simp <;> omega
    · rcases K6 k hk with e | e | e | e | e | e <;> subst e <;> simp at hl ⊢
  | [a, b, c, d, e1], _, _, h3 =>
    have ha := h3 a (by simp)
    have hb := h3 b (by simp)
    have hc := h3 c (by simp)
    have hd := h3 d (by simp)
    have he := h3 e1 (by simp)
    refine ⟨fun k hk => ?_, fun i hi => ?_, ?_, fun k hk => ?_, ?_, ?_, fun k hk => ?_, fun k hk hl => ?_⟩
    · rcases K6 k hk with e | e | e | e | e | e <;> subst e <;> simp [nm27, W27] <;> omega
    · have : i = 0 ∨ i = 1 ∨ i = 2 ∨ i = 3 ∨ i = 4 := by simp at hi; omega
      rcases this with e | e | e | e | e <;> subst e <;> simp [nm256, B256] <;> omega
    · simp [nm256, B256]; omega
    · have : k = 0 ∨ k = 1 ∨ k = 2 ∨ k = 3 ∨ k = 4 := by simp at hk; omega
      rcases this with e | e | e | e | e <;> subst e <;> simp [nm256, B256] <;> omega
    · simp [nm256]; omega
    · simp [nm27]; omega
    · rcases K6 k hk with e | e | e | e | e | e <;> subst e <;> simp <;> omega
    · rcases K6 k hk with e | e | e | e | e | e <;> subst e <;> simp at hl ⊢
  | [a, b, c, d, e1, f], _, _, h3 =>
    have ha := h3 a (by simp)
    have hb := h3 b (by simp)
    have hc := h3 c (by simp)
    have hd := h3 d (by simp)
    have he := h3 e1 (by simp)
    have hf := h3 f (by simp)
    refine ⟨fun k hk => ?_, fun i hi => ?_, ?_, fun k hk => ?_, ?_, ?_, fun k hk => ?_, fun k hk hl => ?_⟩
    · rcases K6 k hk with e | e | e | e | e | e <;> subst e <;> simp [nm27, W27] <;> omega
    · have : i = 0 ∨ i = 1 ∨ i = 2 ∨ i = 3 ∨ i = 4 ∨ i = 5 := by simp at hi; omega
      rcases this with e | e | e | e | e | e <;> subst e <;> simp [nm256, B256] <;> omega
    · simp [nm256, B256]; omega
    · have : k = 0 ∨ k = 1 ∨ k = 2 ∨ k = 3 ∨ k = 4 ∨ k = 5 := by simp at hk; omega
      rcases this with e | e | e | e | e | e <;> subst e <;> simp [nm256, B256] <;> omega
    · simp [nm256]; omega
    · simp [nm27]; omega
    · rcases K6 k hk with e | e | e | e | e | e <;> subst e <;> simp <;> omega
    · rcases K6 k hk with e | e | e | e | e | e <;> subst e <;> simp at hl ⊢
  | a :: b :: c :: d :: e1 :: f :: g :: r, _, h2, _ => simp at h2
theorem lshr_all : ∀ k, k < 63 → (((Int32.ofInt ((k : Nat) : Int)).toInt64 &&& 63).toBitVec.smod 64).toNat = k := by decide +kernel
theorem l_shr_nat {a k : Nat} (ha : a < 9223372036854775808) (hk : k < 63) : l_shr (a : Int) (k : Int) = ((a / 2 ^ k : Nat) : Int) := by
  rw [l_shr_def]
  show ((Int64.ofInt (a : Int)).toBitVec.sshiftRight (((Int32.ofInt (k : Int)).toInt64 &&& 63).toBitVec.smod 64).toNat).toInt = _
  rw [lshr_all k hk, BitVec.toInt_sshiftRight]
  have n : (Int64.ofInt (a : Int)).toBitVec.toNat = a := by
    rw [Int64.toBitVec_ofInt, BitVec.toNat_ofInt]
    omega
  have e : (Int64.ofInt (a : Int)).toBitVec.toInt = (a : Int) := by
    rw [BitVec.toInt_eq_toNat_of_lt (by rw [n]; omega), n]
  rw [e, Int.shiftRight_eq_div_pow]
  norm_cast
theorem l_and255 {x : Int} (h : 0 ≤ x) : l_and x 255 = x % 256 := by
  have e : (Int64.ofInt x &&& Int64.ofInt 255).toBitVec.toNat = (x % 256).toNat := by
    rw [Int64.toBitVec_and, BitVec.toNat_and, show (Int64.ofInt 255).toBitVec.toNat = 2 ^ 8 - 1 from rfl, Nat.and_two_pow_sub_one_eq_mod, Int64.toBitVec_ofInt, BitVec.toNat_ofInt]
    omega
  rw [l_and_def]
  show (Int64.ofInt x &&& Int64.ofInt 255).toBitVec.toInt = _
  rw [BitVec.toInt_eq_toNat_of_lt (by rw [e]; omega), e]
  omega
theorem b256_step (x : Nat) : ∀ i, i < 6 → x / B256.getD i 1 / 2 ^ 8 = x / B256.getD (i + 1) 1 := by
  intro i hi
  have : i = 0 ∨ i = 1 ∨ i = 2 ∨ i = 3 ∨ i = 4 ∨ i = 5 := by omega
  rcases this with e | e | e | e | e | e <;> subst e <;> simp [B256] <;> omega
section LT
variable {G : m_G} {a1 a2 a3 a4 : Int}
theorem mo_let {d : Nat} {X : m_X} {K : Int → m_M → Prop} (C : mC G X YX12_letter (d + 1)) (R : r_i G X K) {μ : m_M} {a1 a2 l4 : Int} {k : Nat} (hk : k < 6) {l : List Nat} (hl : isNm l) (h : K (l.getD k 0 : Int) μ) : mW G X YX12_letter μ 91 [some (vR 34 0), some (vI a1), some (vI a2), some (vI (k : Int)), some (vI l4), some (vJ (nm256 l 0 : Int)), none, some (vI 0), some (vJ (nm256 l 0 : Int)), none] [] := by
  obtain ⟨-, fA, fB, fC, fD, -, fE, fF⟩ := nm_facts hl
  have h6 := hl.2.1
  have L : ∀ (r i : Nat), i + r = l.length → mW G X YX12_letter μ 91 [some (vR 34 0), some (vI a1), some (vI a2), some (vI (k : Int)), some (vI l4), some (vJ (nm256 l 0 : Int)), none, some (vI (i : Int)), some (vJ ((nm256 l 0 / B256.getD i 1 : Nat) : Int)), none] [] := by
    intro r
    induction r with
    | zero =>
      intro i hi
      have ei : i = l.length := by omega
      subst ei
      rw [fB]
      refine VX12_letter_91 C R ⟨fun _ => ⟨fun q => ?_, fun q => ?_⟩, fun q => absurd (by unfold l_cmp; omega) q⟩
      · have hkl : k < l.length := by omega
        have c1 := fC k hkl
        have e26 := fE k hk
        rw [w32_le (z := (l.length : Int) - 1) (by omega) (by omega), w32_le (z := (l.length : Int) - 1 - (k : Int)) (by omega) (by omega), w32_le (z := 8 * ((l.length : Int) - 1 - (k : Int))) (by omega) (by omega), show 8 * ((l.length : Int) - 1 - (k : Int)) = ((8 * (l.length - 1 - k) : Nat) : Int) by omega, l_shr_nat (by omega) (by omega), b256_pow _ (by omega), l_and255 (Int.natCast_nonneg _)]
        rw [show (((nm256 l 0 / B256.getD (l.length - 1 - k) 1 : Nat) : Int)) % 256 = ((nm256 l 0 / B256.getD (l.length - 1 - k) 1 % 256 : Nat) : Int) by omega, c1, w32_le (z := ((96 + l.getD k 0 : Nat) : Int)) (by omega) (by omega), w32_le (z := ((96 + l.getD k 0 : Nat) : Int) - 97) (by omega) (by omega), w32_le (by omega) (by omega), show ((96 + l.getD k 0 : Nat) : Int) - 97 + 1 = (l.getD k 0 : Int) by omega]
        exact h
      · rw [fF k hk (by omega)] at h
        exact h
    | succ r ih =>
      intro i hi
      have hp := fA i (by omega)
      refine VX12_letter_91 C R ⟨fun q => absurd q ?_, fun _ x1 e1 x2 e2 => ?_⟩
      · unfold l_cmp
        rw [if_pos (by omega)]
        omega
      · rw [w32_s (by omega)] at e1
        have hlt : nm256 l 0 / B256.getD i 1 ≤ nm256 l 0 := Nat.div_le_self _ _
        rw [show (8 : Int) = ((8 : Nat) : Int) from rfl, l_shr_nat (by omega) (by omega), b256_step _ i (by omega)] at e2
        subst e1; subst e2
        exact ih (i + 1) (by omega)
  have := L l.length 0 (by omega)
  have e0 : nm256 l 0 / B256.getD 0 1 = nm256 l 0 := by simp [B256]
  rw [e0] at this
  exact this
theorem let_c {x : Int} {l : List Nat} (hl : isNm l) (e : x = (nm27 l 5 : Int)) {k : Nat} (hk : k < 6) : (m_lwL.getD k 0).toInt ≠ 0 ∧ (w32 (x.tdiv ((m_lwL.getD k 0).toInt))).tmod 27 = (l.getD k 0 : Int) := by
  obtain ⟨f1, -, -, -, -, f2, f3, -⟩ := nm_facts hl
  obtain ⟨w1, w2, w3⟩ := lw_all k hk
  have hd : nm27 l 5 / W27.getD k 1 ≤ nm27 l 5 := Nat.div_le_self _ _
  have c1 := f1 k hk
  rw [w1]
  refine ⟨by omega, ?_⟩
  rw [e, Int.tdiv_eq_ediv_of_nonneg (by omega), show (nm27 l 5 : Int) / ((W27.getD k 1 : Nat) : Int) = ((nm27 l 5 / W27.getD k 1 : Nat) : Int) from rfl]
  generalize nm27 l 5 / W27.getD k 1 = Y at hd c1 ⊢
  rw [w32_le (by omega) (by omega), Int.tmod_eq_emod_of_nonneg (by omega)]
  omega
theorem S_letter : SIM G YX11_letter YX12_letter [vI a1, vI a2, vI a3] := by
  intro d μ ⟨A, t, s, b, h⟩
  have hR : RR μ := ⟨A, t, s, b, h⟩
  have hM := h.1.2.1
  have hb := hM.2.1
  have hA := h.1.1.2.2.2.1
  have h8 := hA.1
  have h3 := hA.2.1
  -- the reference has none such
  have no : ¬ ((a1 = 0 ∧ (0 ≤ a2 ∧ a2 < (tw_nc A : Int)) ∨ a1 = 1 ∧ (0 ≤ a2 ∧ a2 < (tw_nk A : Int))) ∧ (0 ≤ a3 ∧ a3 ≤ 5)) → c_i G (d + 100) YX12_letter [vR 34 0, vI a1, vI a2, vI a3] μ (fun r2 μ2 => r2 = -1 ∧ RR μ2) := fun hn => by
    refine EX12_letter (fun X C R => ⟨fun q => ⟨fun q2 => VX12_letter_29 C R ⟨rfl, hR⟩, fun q2 => ?_⟩, fun q => ?_⟩)
    · by_cases hk : 0 ≤ a2 ∧ a2 < (tw_nk A : Int)
      · exact mo_kiln_y h hk ⟨z1, fun _ => mo_is_n (fun z => hn ⟨Or.inr ⟨q2, hk⟩, z⟩) ⟨z0, fun _ => ⟨rfl, hR⟩⟩⟩
      · exact mo_kiln_n h hk ⟨fun _ => VX12_letter_29 C R ⟨rfl, hR⟩, z0⟩
    · by_cases hk : 0 ≤ a2 ∧ a2 < (tw_nc A : Int)
      · exact mo_child_y h hk ⟨z1, fun _ => mo_is_n (fun z => hn ⟨Or.inl ⟨q, hk⟩, z⟩) ⟨z0, fun _ => ⟨rfl, hR⟩⟩⟩
      · exact mo_child_n h hk ⟨fun _ => ⟨rfl, hR⟩, z0⟩
  refine EX11_letter (fun X C R => ⟨fun q => no (fun z => by have := z.2; omega), fun q => ⟨fun q2 => ?_, fun q2 => no (fun z => by have := z.2; omega)⟩⟩)
  obtain ⟨k, rfl⟩ : ∃ k : Nat, a3 = (k : Int) := ⟨a3.toNat, by omega⟩
  have hk6 : k < 6 := by omega
  have at43 : ¬ (a1 = 0 ∧ (0 ≤ a2 ∧ a2 < (tw_nc A : Int))) → mW G X YX11_letter μ 43 [some (vR 1 0), some (vI a1), some (vI a2), some (vI (k : Int))] [] := fun hn => by
    refine VX11_letter_43 C R ⟨fun q => no (fun z => ?_), fun q => ?_⟩
    · rcases z.1 with z | z
      · exact hn z
      · exact q z.1
    · by_cases hk : 0 ≤ a2 ∧ a2 < (tw_nk A : Int)
      · obtain ⟨c, rfl⟩ : ∃ c : Nat, a2 = (c : Int) := ⟨a2.toNat, by omega⟩
        obtain ⟨l, hl, e1, e2⟩ := h.1.2.2.2.2.2 c (by omega)
        obtain ⟨w1, w2⟩ := let_c hl e1 hk6
        refine cl_kiln_y h hk ⟨z1, fun _ => ⟨t, h.1.2.2.1.1, h.1.1.1, ⟨by omega, by omega⟩, ⟨by omega, by omega⟩, ?_⟩⟩
        rw [Int.toNat_natCast, Int.toNat_natCast, w2]
        refine ⟨w1, EX12_letter (fun X C R => ⟨fun _ => ⟨fun z => absurd q z, fun _ => mo_kiln_y h hk ⟨z1, fun _ => mo_is_y ⟨by omega, by omega⟩ ⟨fun _ => ⟨fun _ => ?_, fun z => by omega⟩, z1⟩⟩⟩, fun z => by omega⟩)⟩
        rw [hM.1, w_3b (by omega) (by omega), Int.toNat_natCast]
        refine ⟨⟨by omega, by omega⟩, fun x6 e6 => ?_⟩
        rw [e2] at e6
        subst e6
        exact mo_let C R hk6 hl ⟨rfl, hR⟩
      · exact cl_kiln_n h hk ⟨fun _ => no (fun z => by rcases z.1 with z | z; exact hn z; exact hk z.2), z0⟩
  refine ⟨fun q3 => at43 (fun z => q3 z.1), fun q3 => ?_⟩
  by_cases hk : 0 ≤ a2 ∧ a2 < (tw_nc A : Int)
  · obtain ⟨c, rfl⟩ : ∃ c : Nat, a2 = (c : Int) := ⟨a2.toNat, by omega⟩
    obtain ⟨l, hl, e1, e2⟩ := h.1.2.2.2.2.1 c (by omega)
    obtain ⟨w1, w2⟩ := let_c hl e1 hk6
    refine cl_child_y h hk ⟨z1, fun _ => ⟨t, h.1.2.2.1.1, h.1.1.1, ⟨by omega, by omega⟩, ⟨by omega, by omega⟩, ?_⟩⟩
    rw [Int.toNat_natCast, Int.toNat_natCast, w2]
    refine ⟨w1, EX12_letter (fun X C R => ⟨fun z => absurd q3 z, fun _ => mo_child_y h hk ⟨z1, fun _ => mo_is_y ⟨by omega, by omega⟩ ⟨fun _ => ⟨fun z => absurd q3 z, fun _ => ?_⟩, z1⟩⟩⟩)⟩
    rw [hM.1, w_8b (by omega) (by omega), Int.toNat_natCast]
    refine ⟨⟨by omega, by omega⟩, fun x6 e6 => ?_⟩
    rw [e2] at e6
    subst e6
    exact mo_let C R hk6 hl ⟨rfl, hR⟩
  · exact cl_child_n h hk ⟨fun _ => at43 (fun z => hk z.2), z0⟩
/-! images -/
/-- what is written at place i, ahead of the last byte -/
noncomputable def imB (B : Nat → Nat → Int) (nc i : Nat) : Int :=
  if i = 0 then i_shr (B 0 0) 8 else if i = 1 then B 0 0 else if i = 2 then i_shr (B 0 1) 8 else if i = 3 then B 0 1
  else if i < 4 + 6 * nc then (if (i - 4) % 6 = 0 then (if B 5 ((i - 4) / 6) = -1 then 0 else 1) else B ((i - 4) % 6 + 2) ((i - 4) / 6)) else B 8 (i - 4 - 6 * nc)
noncomputable def chk (g : Nat → Int) : Nat → Int
  | 0 => 241
  | n + 1 => (5 * chk g n + i_and (g n) 255) % 251
theorem chk_in (g : Nat → Int) : ∀ n, 0 ≤ chk g n ∧ chk g n ≤ 250 := by
  intro n
  cases n with
  | zero => unfold chk; omega
  | succ n => unfold chk; omega
def IW (o w : Nat) (g : Nat → Int) (n : Nat) (μ : m_M) : Prop := μ o 0 w = (n : Int) ∧ ∀ i, i < n → μ o w i = i_and (g i) 255
theorem cl_pt {d n : Nat} {μ : m_M} {g : Nat → Int} {v : Int} (h : IW 9 1 g n μ) (hn : n < 56) (hv : v = g n) {K : m_M → Prop} (k : ∀ μ1, (∀ x y z, x ≠ 9 → μ1 x y z = μ x y z) → IW 9 1 g (n + 1) μ1 → K μ1) : c_v G (d + 1) YX3_put [vR 9 0, vI v] μ K := by
  obtain ⟨h1, h2⟩ := h
  refine EX3_put ⟨fun q => absurd q (by omega), fun _ => ⟨⟨by omega, by omega⟩, fun μ1 e1 μ2 e2 => ?_⟩⟩
  rw [h1, Int.toNat_natCast] at e1
  rw [e1, m_up_ne (a := 9) (b := 0) (c := 1) _ _ (by omega), h1, w32_s (by omega)] at e2
  refine k μ2 (fun x y z hx => by rw [e2, m_up_ne _ _ (by omega), m_up_ne _ _ (by omega)]) ⟨by rw [e2, m_up_at], fun i hi => ?_⟩
  by_cases q : i = n
  · subst q; rw [e2, m_up_ne _ _ (by omega), m_up_at, hv]
  · rw [e2, m_up_ne _ _ (by omega), m_up_ne _ _ (by omega)]; exact h2 i (by omega)
theorem mo_pt {d n : Nat} {μ : m_M} {g : Nat → Int} {v : Int} (h : IW 34 66 g n μ) (hn : n < 60) (hv : v = g n) {K : m_M → Prop} (k : ∀ μ1, (∀ x y z, ¬ (x = 34 ∧ (y = 66 ∨ y = 0 ∧ z = 66)) → μ1 x y z = μ x y z) → IW 34 66 g (n + 1) μ1 → K μ1) : c_v G (d + 1) YX12_writes [vR 34 0, vI v] μ K := by
  obtain ⟨h1, h2⟩ := h
  refine EX12_writes ⟨⟨by omega, by omega⟩, fun μ1 e1 μ2 e2 => ?_⟩
  rw [h1, Int.toNat_natCast] at e1
  rw [e1, m_up_ne (a := 34) (b := 0) (c := 66) _ _ (by omega), h1, w32_s (by omega)] at e2
  refine k μ2 (fun x y z hx => by rw [e2, m_up_ne _ _ (by omega), m_up_ne _ _ (by omega)]) ⟨by rw [e2, m_up_at], fun i hi => ?_⟩
  by_cases q : i = n
  · subst q; rw [e2, m_up_ne _ _ (by omega), m_up_at, hv]
  · rw [e2, m_up_ne _ _ (by omega), m_up_ne _ _ (by omega)]; exact h2 i (by omega)
section IMV
variable {B : Nat → Nat → Int} {nc : Nat}
theorem im_f {c j : Nat} (hc : c < nc) (hj : j < 6) : imB B nc (4 + 6 * c + j) = if j = 0 then (if B 5 c = -1 then 0 else 1) else B (j + 2) c := by
  unfold imB
  rw [if_neg (by omega), if_neg (by omega), if_neg (by omega), if_neg (by omega), if_pos (by omega), show (4 + 6 * c + j - 4) % 6 = j by omega, show (4 + 6 * c + j - 4) / 6 = c by omega]
theorem im_k (k : Nat) : imB B nc (4 + 6 * nc + k) = B 8 k := by
  unfold imB
  rw [if_neg (by omega), if_neg (by omega), if_neg (by omega), if_neg (by omega), if_neg (by omega), show 4 + 6 * nc + k - 4 - 6 * nc = k by omega]
end IMV
/-- all but the last byte, then the last one -/
noncomputable def imG (B : Nat → Nat → Int) (nc nk i : Nat) : Int := if i < 4 + 6 * nc + nk then imB B nc i else chk (imB B nc) (4 + 6 * nc + nk)
theorem c_write {d : Nat} {μ : m_M} {A : m_T} {t s b : Nat} (h : RA μ A t s b) {K : m_M → Prop} (k : ∀ μ1, (∀ x y z, x ≠ 9 → μ1 x y z = μ x y z) → IW 9 1 (imG (μ 10) (tw_nc A) (tw_nk A)) (4 + 6 * tw_nc A + tw_nk A + 1) μ1 → K μ1) : c_v G (d + 2) YX3_write [vR 9 0, vR 10 0, vR t 0] μ K := by
  have hA := h.1.1.2.2.2.1
  have h8 := hA.1
  have h3 := hA.2.1
  have ht9 : t ≠ 9 := by rcases h.1.2.2.2.1 with z | z <;> omega
  obtain ⟨nc, hnc⟩ : ∃ nc, nc = tw_nc A := ⟨_, rfl⟩
  obtain ⟨nk, hnk⟩ : ∃ nk, nk = tw_nk A := ⟨_, rfl⟩
  rw [← hnc, ← hnk] at k
  have ect : ∀ μ1 : m_M, (∀ x y z, x ≠ 9 → μ1 x y z = μ x y z) → μ1 t 0 3 = (nc : Int) ∧ μ1 t 0 6 = (nk : Int) ∧ μ1 10 = μ 10 := fun μ1 o1 => ⟨by rw [o1 t 0 3 ht9, h.1.1.nc, hnc], by rw [o1 t 0 6 ht9, h.1.1.nk, hnk], by funext y z; exact o1 10 y z (by omega)⟩
  obtain ⟨g, hg⟩ : ∃ g, g = imG (μ 10) nc nk := ⟨_, rfl⟩
  rw [← hg] at k
  have gb : ∀ i, i < 4 + 6 * nc + nk → g i = imB (μ 10) nc i := fun i hi => by rw [hg]; exact if_pos hi
  have gl : g (4 + 6 * nc + nk) = chk (imB (μ 10) nc) (4 + 6 * nc + nk) := by rw [hg]; exact if_neg (by omega)
  refine EX3_write (by decide) h.1.1.1 (fun X C R μ1 e1 => ?_)
  have W0 : IW 9 1 g 0 μ1 := ⟨by rw [e1, m_up_at]; rfl, fun i hi => by omega⟩
  have o1 : ∀ x y z, x ≠ 9 → μ1 x y z = μ x y z := fun x y z hx => by rw [e1, m_up_ne _ _ (by omega)]
  have L3 : ∀ (r i : Nat) (μ1 : m_M), i + r = 4 + 6 * nc + nk → (∀ x y z, x ≠ 9 → μ1 x y z = μ x y z) → IW 9 1 g (4 + 6 * nc + nk) μ1 → mW G X YX3_write μ1 159 [some (vR 9 0), some (vR 10 0), some (vR t 0), some (vI (chk (imB (μ 10) nc) i)), some (vI (i : Int))] [] := by
    intro r
    induction r with
    | zero =>
      intro i μ1 hi o1 w1
      have ei : i = 4 + 6 * nc + nk := by omega
      subst ei
      refine VX3_write_159 C R (by decide) h.1.1.1 ⟨fun _ => cl_pt w1 (by omega) gl.symm (fun μ2 o2 w2 => k μ2 (fun x y z hx => (o2 x y z hx).trans (o1 x y z hx)) w2), fun q => absurd (by rw [w1.1]; omega) q⟩
    | succ r ih =>
      intro i μ1 hi o1 w1
      have hc := chk_in (imB (μ 10) nc) i
      have ha := and255_in (imB (μ 10) nc i)
      refine VX3_write_159 C R (by decide) h.1.1.1 ⟨fun q => absurd q (by rw [w1.1]; omega), fun _ => ⟨⟨by omega, by omega⟩, EX3_addToCheck (fun x5 e5 => ?_)⟩⟩
      rw [w32_s (by omega)] at e5
      subst e5
      rw [Int.toNat_natCast, w1.2 i (by omega), gb i (by omega), w32_le (z := 5 * chk (imB (μ 10) nc) i) (by omega) (by omega), w32_le (by omega) (by omega), Int.tmod_eq_emod_of_nonneg (by omega)]
      exact ih (i + 1) μ1 (by omega) o1 w1
  have L2 : ∀ (r j : Nat) (μ1 : m_M), j + r = nk → (∀ x y z, x ≠ 9 → μ1 x y z = μ x y z) → IW 9 1 g (4 + 6 * nc + j) μ1 → mW G X YX3_write μ1 128 [some (vR 9 0), some (vR 10 0), some (vR t 0), some (vI (j : Int)), none] [] := by
    intro r
    induction r with
    | zero =>
      intro j μ1 hj o1 w1
      obtain ⟨c1, c2, c3⟩ := ect μ1 o1
      have ej : j = nk := by omega
      subst ej
      refine VX3_write_128 C R (by decide) h.1.1.1 ⟨fun _ => ?_, fun q => absurd (by rw [c2]; omega) q⟩
      exact L3 (4 + 6 * nc + j) 0 μ1 (by omega) o1 w1
    | succ r ih =>
      intro j μ1 hj o1 w1
      obtain ⟨c1, c2, c3⟩ := ect μ1 o1
      refine VX3_write_128 C R (by decide) h.1.1.1 ⟨fun q => absurd q (by rw [c2]; omega), fun _ => ⟨⟨by omega, by omega⟩, cl_pt w1 (by omega) ?_ (fun μ2 o2 w2 x4 e4 => ?_)⟩⟩
      · rw [gb _ (by omega), im_k, Int.toNat_natCast, c3]
      · rw [w32_s (by omega)] at e4
        subst e4
        exact ih (j + 1) μ2 (by omega) (fun x y z hx => (o2 x y z hx).trans (o1 x y z hx)) w2
  have L1 : ∀ (r c : Nat) (μ1 : m_M), c + r = nc → (∀ x y z, x ≠ 9 → μ1 x y z = μ x y z) → IW 9 1 g (4 + 6 * c) μ1 → mW G X YX3_write μ1 45 [some (vR 9 0), some (vR 10 0), some (vR t 0), some (vI (c : Int)), none] [] := by
    intro r
    induction r with
    | zero =>
      intro c μ1 hc o1 w1
      obtain ⟨c1, c2, c3⟩ := ect μ1 o1
      have ec : c = nc := by omega
      subst ec
      refine VX3_write_45 C R (by decide) h.1.1.1 ⟨fun _ => ?_, fun q => absurd (by rw [c1]; omega) q⟩
      exact L2 nk 0 μ1 (by omega) o1 w1
    | succ r ih =>
      intro c μ1 hc o1 w1
      obtain ⟨c1, c2, c3⟩ := ect μ1 o1
      have gf : ∀ j, j < 6 → g (4 + 6 * c + j) = if j = 0 then (if μ 10 5 c = -1 then 0 else 1) else μ 10 (j + 2) c := fun j hj => by rw [gb _ (by omega), im_f (by omega) hj]
      refine VX3_write_45 C R (by decide) h.1.1.1 ⟨fun q => absurd q (by rw [c1]; omega), fun _ => c_isFired (by decide) (by omega) ?_⟩
      have rest : ∀ μ2, (∀ x y z, x ≠ 9 → μ2 x y z = μ x y z) → IW 9 1 g (4 + 6 * c + 0 + 1) μ2 → (0 ≤ (c : Int) ∧ (c : Int) < 8) ∧ c_v G (d + 1) YX3_put [vR 9 0, vI (μ2 10 3 (c : Int).toNat)] μ2 (fun μ5 => (0 ≤ (c : Int) ∧ (c : Int) < 8) ∧ c_v G (d + 1) YX3_put [vR 9 0, vI (μ5 10 4 (c : Int).toNat)] μ5 (fun μ6 => (0 ≤ (c : Int) ∧ (c : Int) < 8) ∧ c_v G (d + 1) YX3_put [vR 9 0, vI (μ6 10 5 (c : Int).toNat)] μ6 (fun μ7 => (0 ≤ (c : Int) ∧ (c : Int) < 8) ∧ c_v G (d + 1) YX3_put [vR 9 0, vI (μ7 10 6 (c : Int).toNat)] μ7 (fun μ8 => (0 ≤ (c : Int) ∧ (c : Int) < 8) ∧ c_v G (d + 1) YX3_put [vR 9 0, vI (μ8 10 7 (c : Int).toNat)] μ8 (fun μ9 => ∀ x10 : Int, x10 = w32 ((c : Int) + 1) → mW G X YX3_write μ9 45 [some (vR 9 0), some (vR 10 0), some (vR t 0), some (vI x10), none] []))))) := fun μ2 o2 w2 => by
        have st : ∀ {j : Nat} {μ3 : m_M}, (∀ x y z, x ≠ 9 → μ3 x y z = μ x y z) → 1 ≤ j → j < 6 → μ3 10 (j + 2) (c : Int).toNat = g (4 + 6 * c + j) := fun {j μ3} o3 j1 j2 => by rw [gf j j2, if_neg (by omega), Int.toNat_natCast, (ect μ3 o3).2.2]
        refine ⟨⟨by omega, by omega⟩, cl_pt w2 (by omega) (st o2 (by decide) (by decide)) (fun μ3 o3 w3 => ?_)⟩
        have o3' : ∀ x y z, x ≠ 9 → μ3 x y z = μ x y z := fun x y z hx => (o3 x y z hx).trans (o2 x y z hx)
        refine ⟨⟨by omega, by omega⟩, cl_pt w3 (by omega) (st o3' (by decide) (by decide)) (fun μ4 o4 w4 => ?_)⟩
        have o4' : ∀ x y z, x ≠ 9 → μ4 x y z = μ x y z := fun x y z hx => (o4 x y z hx).trans (o3' x y z hx)
        refine ⟨⟨by omega, by omega⟩, cl_pt w4 (by omega) (st o4' (by decide) (by decide)) (fun μ5 o5 w5 => ?_)⟩
        have o5' : ∀ x y z, x ≠ 9 → μ5 x y z = μ x y z := fun x y z hx => (o5 x y z hx).trans (o4' x y z hx)
        refine ⟨⟨by omega, by omega⟩, cl_pt w5 (by omega) (st o5' (by decide) (by decide)) (fun μ6 o6 w6 => ?_)⟩
        have o6' : ∀ x y z, x ≠ 9 → μ6 x y z = μ x y z := fun x y z hx => (o6 x y z hx).trans (o5' x y z hx)
        refine ⟨⟨by omega, by omega⟩, cl_pt w6 (by omega) (st o6' (by decide) (by decide)) (fun μ7 o7 w7 x10 e10 => ?_)⟩
        rw [w32_s (by omega)] at e10
        subst e10
        exact ih (c + 1) μ7 (by omega) (fun x y z hx => (o7 x y z hx).trans (o6' x y z hx)) w7
      rw [c3]
      by_cases q : μ 10 5 c = -1
      · rw [if_pos q]
        exact ⟨fun _ => cl_pt (n := 4 + 6 * c + 0) w1 (by omega) (by rw [gf 0 (by decide), if_pos rfl, if_pos q]) (fun μ2 o2 w2 => rest μ2 (fun x y z hx => (o2 x y z hx).trans (o1 x y z hx)) w2), z0⟩
      · rw [if_neg q]
        exact ⟨z1, fun _ => cl_pt (n := 4 + 6 * c + 0) w1 (by omega) (by rw [gf 0 (by decide), if_pos rfl, if_neg q]) (fun μ2 o2 w2 => rest μ2 (fun x y z hx => (o2 x y z hx).trans (o1 x y z hx)) w2)⟩
  have b4 : ∀ i, i < 4 → g i = imB (μ 10) nc i := fun i hi => gb i (by omega)
  refine cl_pt W0 (by omega) (by rw [b4 0 (by decide), (ect μ1 o1).2.2]; rfl) (fun μ2 o2 w2 => ?_)
  have o2' : ∀ x y z, x ≠ 9 → μ2 x y z = μ x y z := fun x y z hx => (o2 x y z hx).trans (o1 x y z hx)
  refine cl_pt w2 (by omega) (by rw [b4 1 (by decide), (ect μ2 o2').2.2]; rfl) (fun μ3 o3 w3 => ?_)
  have o3' : ∀ x y z, x ≠ 9 → μ3 x y z = μ x y z := fun x y z hx => (o3 x y z hx).trans (o2' x y z hx)
  refine cl_pt w3 (by omega) (by rw [b4 2 (by decide), (ect μ3 o3').2.2]; rfl) (fun μ4 o4 w4 => ?_)
  have o4' : ∀ x y z, x ≠ 9 → μ4 x y z = μ x y z := fun x y z hx => (o4 x y z hx).trans (o3' x y z hx)
  refine cl_pt w4 (by omega) (by rw [b4 3 (by decide), (ect μ4 o4').2.2]; rfl) (fun μ5 o5 w5 => ?_)
  have o5' : ∀ x y z, x ≠ 9 → μ5 x y z = μ x y z := fun x y z hx => (o5 x y z hx).trans (o4' x y z hx)
  exact L1 nc 0 μ5 (by omega) o5' w5
theorem mo_image {d : Nat} {μ : m_M} {A : m_T} {b : Nat} {B : Nat → Nat → Int} (hM : MT μ b A) (hl : beq (mK A (μ 34) 0) B) (h49 : in8 (μ 34 49 0)) {K : Int → m_M → Prop} (k : ∀ μ1, (∀ x y z, ¬ (x = 34 ∧ (y = 66 ∨ y = 0 ∧ z = 66)) → μ1 x y z = μ x y z) → IW 34 66 (imG B (tw_nc A) (tw_nk A)) (4 + 6 * tw_nc A + tw_nk A + 1) μ1 → K ((4 + 6 * tw_nc A + tw_nk A + 1 : Nat) : Int) μ1) : c_i G (d + 2) YX12_image [vR 34 0] μ K := by
  have hA := hM.2.2.2.1
  have h8 := hA.1
  have h3 := hA.2.1
  have hb := hM.2.1
  obtain ⟨nc, hnc⟩ : ∃ nc, nc = tw_nc A := ⟨_, rfl⟩
  obtain ⟨nk, hnk⟩ : ∃ nk, nk = tw_nk A := ⟨_, rfl⟩
  rw [← hnc, ← hnk] at k
  have l3 : ∀ c, c < 8 → c < nc → μ 34 45 c = B 3 c ∧ μ 34 46 c = B 4 c ∧ μ 34 47 c = B 5 c ∧ (if tb (μ 34 49 0) c then (1 : Int) else 0) = B 6 c ∧ μ 34 48 c = B 7 c := fun c hc hcn => by
    have := hl.2.1 c hc
    rw [mK_ne (A := A) (by omega), mB3, mB4, mB5, mB6, mB7, Nat.mul_zero, Nat.zero_add] at this
    exact this
  have l8 : ∀ j, j < 3 → μ 34 50 j = B 8 j := fun j hj => by
    have := hl.2.2.1 j hj
    rw [mK8, Nat.mul_zero, Nat.zero_add] at this
    exact this
  have l0 : μ 34 43 0 = B 0 0 ∧ μ 34 44 0 = B 0 1 := ⟨hl.1.1, hl.1.2.1⟩
  have ect : ∀ μ1 : m_M, (∀ x y z, ¬ (x = 34 ∧ (y = 66 ∨ y = 0 ∧ z = 66)) → μ1 x y z = μ x y z) → μ1 34 0 13 = (b : Int) ∧ μ1 34 15 b = (nc : Int) ∧ μ1 34 18 b = (nk : Int) := fun μ1 o1 => ⟨by rw [o1 34 0 13 (by omega), hM.1], by rw [o1 34 15 b (by omega), hM.nc, hnc], by rw [o1 34 18 b (by omega), hM.nk, hnk]⟩
  obtain ⟨g, hg⟩ : ∃ g, g = imG B nc nk := ⟨_, rfl⟩
  rw [← hg] at k
  have gb : ∀ i, i < 4 + 6 * nc + nk → g i = imB B nc i := fun i hi => by rw [hg]; exact if_pos hi
  have gl : g (4 + 6 * nc + nk) = chk (imB B nc) (4 + 6 * nc + nk) := by rw [hg]; exact if_neg (by omega)
  refine EX12_image (fun X C R μ1 e1 => ?_)
  have W0 : IW 34 66 g 0 μ1 := ⟨by rw [e1, m_up_at]; rfl, fun i hi => by omega⟩
  have o1 : ∀ x y z, ¬ (x = 34 ∧ (y = 66 ∨ y = 0 ∧ z = 66)) → μ1 x y z = μ x y z := fun x y z hx => by rw [e1, m_up_ne _ _ (by omega)]
  have L3 : ∀ (r i : Nat) (μ1 : m_M), i + r = 4 + 6 * nc + nk → (∀ x y z, ¬ (x = 34 ∧ (y = 66 ∨ y = 0 ∧ z = 66)) → μ1 x y z = μ x y z) → IW 34 66 g (4 + 6 * nc + nk) μ1 → mW G X YX12_image μ1 190 [some (vR 34 0), some (vI (chk (imB B nc) i)), some (vI (i : Int))] [] := by
    intro r
    induction r with
    | zero =>
      intro i μ1 hi o1 w1
      have ei : i = 4 + 6 * nc + nk := by omega
      subst ei
      refine VX12_image_190 C R ⟨fun _ => mo_pt w1 (by omega) gl.symm (fun μ2 o2 w2 => ?_), fun q => absurd (by rw [w1.1]; omega) q⟩
      rw [w2.1]
      exact k μ2 (fun x y z hx => (o2 x y z hx).trans (o1 x y z hx)) w2
    | succ r ih =>
      intro i μ1 hi o1 w1
      have hc := chk_in (imB B nc) i
      have ha := and255_in (imB B nc i)
      refine VX12_image_190 C R ⟨fun q => absurd q (by rw [w1.1]; omega), fun _ => ⟨⟨by omega, by omega⟩, fun x2 e2 x5 e5 => ?_⟩⟩
      rw [w32_s (by omega)] at e5
      subst e5
      rw [Int.toNat_natCast, w1.2 i (by omega), gb i (by omega), w32_le (z := 5 * chk (imB B nc) i) (by omega) (by omega), w32_le (by omega) (by omega), Int.tmod_eq_emod_of_nonneg (by omega)] at e2
      subst e2
      exact ih (i + 1) μ1 (by omega) o1 w1
  have L2 : ∀ (r j : Nat) (μ1 : m_M), j + r = nk → (∀ x y z, ¬ (x = 34 ∧ (y = 66 ∨ y = 0 ∧ z = 66)) → μ1 x y z = μ x y z) → IW 34 66 g (4 + 6 * nc + j) μ1 → mW G X YX12_image μ1 155 [some (vR 34 0), some (vI (j : Int)), none] [] := by
    intro r
    induction r with
    | zero =>
      intro j μ1 hj o1 w1
      obtain ⟨c1, c2, c3⟩ := ect μ1 o1
      have ej : j = nk := by omega
      subst ej
      refine VX12_image_155 C R ?_
      rw [c1, Int.toNat_natCast, c3]
      exact ⟨⟨by omega, by omega⟩, fun _ => L3 (4 + 6 * nc + j) 0 μ1 (by omega) o1 w1, fun q => absurd (by omega) q⟩
    | succ r ih =>
      intro j μ1 hj o1 w1
      obtain ⟨c1, c2, c3⟩ := ect μ1 o1
      refine VX12_image_155 C R ?_
      rw [c1, Int.toNat_natCast, c3]
      refine ⟨⟨by omega, by omega⟩, fun q => absurd q (by omega), fun _ => ⟨⟨by omega, by omega⟩, mo_pt w1 (by omega) ?_ (fun μ2 o2 w2 x4 e4 => ?_)⟩⟩
      · rw [gb _ (by omega), im_k, Int.toNat_natCast, o1 34 50 j (by omega), l8 j (by omega)]
      · rw [w32_s (by omega)] at e4
        subst e4
        exact ih (j + 1) μ2 (by omega) (fun x y z hx => (o2 x y z hx).trans (o1 x y z hx)) w2
  have L1 : ∀ (r c : Nat) (μ1 : m_M), c + r = nc → (∀ x y z, ¬ (x = 34 ∧ (y = 66 ∨ y = 0 ∧ z = 66)) → μ1 x y z = μ x y z) → IW 34 66 g (4 + 6 * c) μ1 → mW G X YX12_image μ1 53 [some (vR 34 0), some (vI (c : Int)), none] [] := by
    intro r
    induction r with
    | zero =>
      intro c μ1 hc o1 w1
      obtain ⟨c1, c2, c3⟩ := ect μ1 o1
      have ec : c = nc := by omega
      subst ec
      refine VX12_image_53 C R ?_
      rw [c1, Int.toNat_natCast, c2]
      exact ⟨⟨by omega, by omega⟩, fun _ => L2 nk 0 μ1 (by omega) o1 w1, fun q => absurd (by omega) q⟩
    | succ r ih =>
      intro c μ1 hc o1 w1
      obtain ⟨c1, c2, c3⟩ := ect μ1 o1
      obtain ⟨v3, v4, v5, v6, v7⟩ := l3 c (by omega) (by omega)
      have gf : ∀ j, j < 6 → g (4 + 6 * c + j) = if j = 0 then (if B 5 c = -1 then 0 else 1) else B (j + 2) c := fun j hj => by rw [gb _ (by omega), im_f (by omega) hj]
      have tail : ∀ μ6, (∀ x y z, ¬ (x = 34 ∧ (y = 66 ∨ y = 0 ∧ z = 66)) → μ6 x y z = μ x y z) → IW 34 66 g (4 + 6 * c + 4) μ6 → c_i G (d + 1) YX12_has2 [vI (μ6 34 49 0), vI (c : Int)] μ6 (fun r7 μ6 => ((r7 = 0) → c_v G (d + 1) YX12_writes [vR 34 0, vI 0] μ6 (fun μ8 => (0 ≤ (c : Int) ∧ (c : Int) < 176) ∧ c_v G (d + 1) YX12_writes [vR 34 0, vI (μ8 34 48 (c : Int).toNat)] μ8 (fun μ9 => ∀ x10 : Int, x10 = w32 ((c : Int) + 1) → mW G X YX12_image μ9 53 [some (vR 34 0), some (vI x10), none] []))) ∧ ((¬ r7 = 0) → c_v G (d + 1) YX12_writes [vR 34 0, vI 1] μ6 (fun μ11 => (0 ≤ (c : Int) ∧ (c : Int) < 176) ∧ c_v G (d + 1) YX12_writes [vR 34 0, vI (μ11 34 48 (c : Int).toNat)] μ11 (fun μ12 => ∀ x13 : Int, x13 = w32 ((c : Int) + 1) → mW G X YX12_image μ12 53 [some (vR 34 0), some (vI x13), none] [])))) := fun μ6 o6 w6 => by
        rw [o6 34 49 0 (by omega)]
        have ht := tb_i (x := μ 34 49 0) (k := c) (bt_s h49) (by omega)
        have fin : ∀ μ8, (∀ x y z, ¬ (x = 34 ∧ (y = 66 ∨ y = 0 ∧ z = 66)) → μ8 x y z = μ x y z) → IW 34 66 g (4 + 6 * c + 4 + 1) μ8 → (0 ≤ (c : Int) ∧ (c : Int) < 176) ∧ c_v G (d + 1) YX12_writes [vR 34 0, vI (μ8 34 48 (c : Int).toNat)] μ8 (fun μ9 => ∀ x10 : Int, x10 = w32 ((c : Int) + 1) → mW G X YX12_image μ9 53 [some (vR 34 0), some (vI x10), none] []) := fun μ8 o8 w8 => by
          refine ⟨⟨by omega, by omega⟩, mo_pt (n := 4 + 6 * c + 5) w8 (by omega) ?_ (fun μ9 o9 w9 x10 e10 => ?_)⟩
          · rw [gf 5 (by decide), if_neg (by decide), Int.toNat_natCast, o8 34 48 c (by omega), v7]
          · rw [w32_s (by omega)] at e10
            subst e10
            exact ih (c + 1) μ9 (by omega) (fun x y z hx => (o9 x y z hx).trans (o8 x y z hx)) w9
        refine EX12_has2 ⟨fun q => ⟨fun _ => mo_pt w6 (by omega) ?_ (fun μ8 o8 w8 => fin μ8 (fun x y z hx => (o8 x y z hx).trans (o6 x y z hx)) w8), z0⟩, fun q => ⟨z1, fun _ => mo_pt w6 (by omega) ?_ (fun μ8 o8 w8 => fin μ8 (fun x y z hx => (o8 x y z hx).trans (o6 x y z hx)) w8)⟩⟩
        · rw [ht] at q
          rw [gf 4 (by decide), if_neg (by decide), ← v6, if_neg q]
        · rw [ht] at q
          rw [gf 4 (by decide), if_neg (by decide), ← v6, if_pos q]
      have st : ∀ {j w : Nat} {μ3 : m_M}, (∀ x y z, ¬ (x = 34 ∧ (y = 66 ∨ y = 0 ∧ z = 66)) → μ3 x y z = μ x y z) → (j = 1 ∧ w = 45 ∨ j = 2 ∧ w = 46 ∨ j = 3 ∧ w = 47) → μ3 34 w (c : Int).toNat = g (4 + 6 * c + j) := fun {j w μ3} o3 hj => by
        rw [gf j (by omega), if_neg (by omega), Int.toNat_natCast, o3 34 w c (by omega)]
        rcases hj with ⟨e, e'⟩ | ⟨e, e'⟩ | ⟨e, e'⟩ <;> subst e <;> subst e'
        · exact v3
        · exact v4
        · exact v5
      refine VX12_image_53 C R ?_
      rw [c1, Int.toNat_natCast, c2]
      have e47 : μ1 34 47 (c : Int).toNat = B 5 c := by rw [Int.toNat_natCast, o1 34 47 c (by omega), v5]
      rw [e47]
      refine ⟨⟨by omega, by omega⟩, fun q => absurd q (by omega), fun _ => ⟨⟨by omega, by omega⟩, fun q => mo_pt (n := 4 + 6 * c + 0) w1 (by omega) (by rw [gf 0 (by decide), if_pos rfl, if_neg q]) (fun μ2 o2 w2 => ?_), fun q => mo_pt (n := 4 + 6 * c + 0) w1 (by omega) (by rw [gf 0 (by decide), if_pos rfl, if_pos q]) (fun μ2 o2 w2 => ?_)⟩⟩
      all_goals
        have o2' : ∀ x y z, ¬ (x = 34 ∧ (y = 66 ∨ y = 0 ∧ z = 66)) → μ2 x y z = μ x y z := fun x y z hx => (o2 x y z hx).trans (o1 x y z hx)
        refine ⟨⟨by omega, by omega⟩, mo_pt (n := 4 + 6 * c + 1) w2 (by omega) (st (j := 1) o2' (by omega)) (fun μ3 o3 w3 => ?_)⟩
        have o3' : ∀ x y z, ¬ (x = 34 ∧ (y = 66 ∨ y = 0 ∧ z = 66)) → μ3 x y z = μ x y z := fun x y z hx => (o3 x y z hx).trans (o2' x y z hx)
        refine ⟨⟨by omega, by omega⟩, mo_pt (n := 4 + 6 * c + 2) w3 (by omega) (st (j := 2) o3' (by omega)) (fun μ4 o4 w4 => ?_)⟩
        have o4' : ∀ x y z, ¬ (x = 34 ∧ (y = 66 ∨ y = 0 ∧ z = 66)) → μ4 x y z = μ x y z := fun x y z hx => (o4 x y z hx).trans (o3' x y z hx)
        refine ⟨⟨by omega, by omega⟩, mo_pt (n := 4 + 6 * c + 3) w4 (by omega) (st (j := 3) o4' (by omega)) (fun μ5 o5 w5 => ?_)⟩
        exact tail μ5 (fun x y z hx => (o5 x y z hx).trans (o4' x y z hx)) w5
  have b4 : ∀ i, i < 4 → g i = imB B nc i := fun i hi => gb i (by omega)
  refine mo_pt W0 (by omega) (by rw [b4 0 (by decide), o1 34 43 0 (by omega), l0.1]; rfl) (fun μ2 o2 w2 => ?_)
  have o2' : ∀ x y z, ¬ (x = 34 ∧ (y = 66 ∨ y = 0 ∧ z = 66)) → μ2 x y z = μ x y z := fun x y z hx => (o2 x y z hx).trans (o1 x y z hx)
  refine mo_pt w2 (by omega) (by rw [b4 1 (by decide), o2' 34 43 0 (by omega), l0.1]; rfl) (fun μ3 o3 w3 => ?_)
  have o3' : ∀ x y z, ¬ (x = 34 ∧ (y = 66 ∨ y = 0 ∧ z = 66)) → μ3 x y z = μ x y z := fun x y z hx => (o3 x y z hx).trans (o2' x y z hx)
  refine mo_pt w3 (by omega) (by rw [b4 2 (by decide), o3' 34 44 0 (by omega), l0.2]; rfl) (fun μ4 o4 w4 => ?_)
  have o4' : ∀ x y z, ¬ (x = 34 ∧ (y = 66 ∨ y = 0 ∧ z = 66)) → μ4 x y z = μ x y z := fun x y z hx => (o4 x y z hx).trans (o3' x y z hx)
  refine mo_pt w4 (by omega) (by rw [b4 3 (by decide), o4' 34 44 0 (by omega), l0.2]; rfl) (fun μ5 o5 w5 => ?_)
  exact L1 nc 0 μ5 (by omega) (fun x y z hx => (o5 x y z hx).trans (o4' x y z hx)) w5
theorem S_image : SIM G YX11_image YX12_image [] := by
  intro d μ ⟨A, t, s, b, h⟩
  have hA := h.1.1.2.2.2.1
  have h8 := hA.1
  have h3 := hA.2.1
  refine EX11_image ⟨t, h.1.2.2.1.1, h.1.1.1, c_write h (fun μ1 o1 w1 => ?_)⟩
  rw [w1.1]
  have e34 : μ1 34 = μ 34 := by funext y z; exact o1 34 y z (by omega)
  refine mo_image (B := μ 10) (h.1.2.1.e34 e34) (by rw [e34]; exact h.2.1.2.1) (by rw [e34]; exact h.2.1.2.2) (fun μ2 o2 w2 => ⟨rfl, A, t, s, b, ?_⟩)
  have e : ∀ x y z, x ≠ 9 → ¬ (x = 34 ∧ (y = 66 ∨ y = 0 ∧ z = 66)) → μ2 x y z = μ x y z := fun x y z a c => (o2 x y z c).trans (o1 x y z a)
  obtain ⟨r1, r2, r3, r4, r5, r6, r7, r8, r9⟩ := h
  refine ⟨r1.rd (fun x y z q => e x y z (by unfold rd_town at q; omega) (by unfold rd_town at q; omega)), R_now.rd r2 (fun x y z q => e x y z (by unfold rd_now at q; omega) (by unfold rd_now at q; omega)), r3.rd (fun x y z q => e x y z (by unfold rd_undo at q; omega) (by unfold rd_undo at q; omega)), r4.rd (fun x y z q => e x y z (by unfold rd_tape at q; omega) (by unfold rd_tape at q; omega)), r5.rd (fun x y z q => e x y z (by unfold rd_misc at q; omega) (by unfold rd_misc at q; omega)), r6.rd (fun x y z q => e x y z (by unfold rd_see at q; omega) (by unfold rd_see at q; omega)), r7.rd (fun x y z q => e x y z (by unfold rd_best at q; omega) (by unfold rd_best at q; omega)), ⟨4 + 6 * tw_nc A + tw_nk A + 1, by omega, ?_, w2.1, fun i hi => ?_⟩, R_own.rd r9 (fun y z => e 3 y z (by omega) (by omega))⟩
  · rw [o2 9 0 1 (by omega)]; exact w1.1
  · rw [w2.2 i hi, o2 9 1 i (by omega)]; exact (w1.2 i hi).symm
end LT
