/-! ===== the reference fires a kiln ===== -/
/-- only layer v of the reference, what it works with, and which kilns were fired, may have changed -/
def inL (v a b c : Nat) : Prop := a = 34 ∧ (b = 56 ∨ b = 57 ∨ (b = 0 ∧ c = 57) ∨ ((b = 43 ∨ b = 44 ∨ b = 49 ∨ b = 51) ∧ c = v) ∨ ((b = 45 ∨ b = 46 ∨ b = 47 ∨ b = 48) ∧ c / 8 = v) ∨ (b = 50 ∧ c / 3 = v) ∨ (b = 52 ∧ c / 160 = v))
def ofL (v : Nat) (μ μ1 : m_M) : Prop := ∀ a b c, ¬ inL v a b c → μ1 a b c = μ a b c
theorem ofL.rf (v : Nat) (μ : m_M) : ofL v μ μ := fun _ _ _ _ => rfl
theorem ofL.tr {v : Nat} {μ μ1 μ2 : m_M} (h : ofL v μ μ1) (h2 : ofL v μ1 μ2) : ofL v μ μ2 := fun a b c ha => (h2 a b c ha).trans (h a b c ha)
theorem ofL.up {v : Nat} {μ : m_M} {b c : Nat} {x : Int} (h : inL v 34 b c) : ofL v μ (m_up μ 34 b c x) := fun a b' c' ha => m_up_ne _ _ (fun z => ha (by rw [z.1, z.2.1, z.2.2]; exact h))
theorem ofL.of {v : Nat} {μ μ1 : m_M} (h : offM μ μ1) : ofL v μ μ1 := fun a b c ha => h a b c (fun z => ha ⟨z.1, by omega⟩)
theorem MT.ofL {v : Nat} {μ μ1 : m_M} {b : Nat} {A : m_T} (h : MT μ b A) (hf : ofL v μ μ1) : MT μ1 b A := h.mv (fun x c hx => hf 34 x c (fun z => by unfold inL at z; omega))
theorem cm_writesDown {G : m_G} {d v f : Nat} (hv : v < 22) {μ : m_M} (hf : μ 34 51 v = (f : Int)) (hf8 : f < 8) {a b c : Int} {K : m_M → Prop} (h : K (m_up (m_up (m_up (m_up (m_up μ 34 52 (160 * v + 4 * f) (μ 34 43 v)) 34 52 (160 * v + 4 * f + 1) a) 34 52 (160 * v + 4 * f + 2) b) 34 52 (160 * v + 4 * f + 3) c) 34 51 v ((f : Int) + 1))) : c_v G (d + 1) YX12_writesDown [vR 34 0, vI (v : Int), vI a, vI b, vI c] μ K := by
  refine EX12_writesDown (fun X C R => ?_)
  rw [Int.toNat_natCast, hf]
  refine ⟨⟨by omega, by omega⟩, fun _ => VX12_writesDown_66 C R ?_, fun q => absurd q (by omega)⟩
  rw [Int.toNat_natCast, hf, w32_le (z := 40 * (v : Int)) (by omega) (by omega), w32_le (z := 40 * (v : Int) + f) (by omega) (by omega), w32_le (by omega) (by omega), show 4 * (40 * (v : Int) + f) = ((160 * v + 4 * f : Nat) : Int) by omega]
  refine ⟨⟨by omega, by omega⟩, fun x1 e1 => ?_⟩
  subst e1
  have n1 : w32 (((160 * v + 4 * f : Nat) : Int) + 1) = ((160 * v + 4 * f + 1 : Nat) : Int) := w32_s (by omega)
  have n2 : w32 (((160 * v + 4 * f : Nat) : Int) + 2) = ((160 * v + 4 * f + 2 : Nat) : Int) := by rw [w32_le (by omega) (by omega)]; omega
  have n3 : w32 (((160 * v + 4 * f : Nat) : Int) + 3) = ((160 * v + 4 * f + 3 : Nat) : Int) := by rw [w32_le (by omega) (by omega)]; omega
  rw [n1, n2, n3, Int.toNat_natCast, Int.toNat_natCast, Int.toNat_natCast, Int.toNat_natCast]
  refine ⟨⟨by omega, by omega⟩, ⟨by omega, by omega⟩, fun μ2 e2 => ⟨⟨by omega, by omega⟩, fun μ3 e3 => ⟨⟨by omega, by omega⟩, fun μ4 e4 => ⟨⟨by omega, by omega⟩, fun μ5 e5 => ⟨⟨by omega, by omega⟩, ⟨by omega, by omega⟩, fun μ6 e6 => ?_⟩⟩⟩⟩⟩
  have e59 : μ5 34 51 v = (f : Int) := by rw [e5, m_up_ne _ _ (by omega), e4, m_up_ne _ _ (by omega), e3, m_up_ne _ _ (by omega), e2, m_up_ne _ _ (by omega)]; exact hf
  rw [e59, w32_le (by omega) (by omega)] at e6
  rw [e6, e5, e4, e3, e2]
  exact h
noncomputable def p_F (A : m_T) (B : Nat → Nat → Int) (kn : Nat) (heat : Int) : Nat → Nat → Int :=
  bu (p_kf (sS A B kn heat (tw_room A kn)) kn heat (sCnt A B kn heat (tw_room A kn).toNat 0)) 8 kn (-1)
theorem p_fire_F (A : m_T) (B : Nat → Nat → Int) (kn : Nat) (heat : Int) : p_fire A B kn heat = p_F A (bu B 0 1 (B 0 1 - p_burn A B kn)) kn heat := rfl
section PFF
variable {A : m_T} {B : Nat → Nat → Int} {kn : Nat} {heat : Int}
theorem p_F_k {k : Nat} (hk : k ≠ 0) (h8 : k ≠ 8) (h9 : k ≠ 9) (i : Nat) : p_F A B kn heat k i = sS A B kn heat (tw_room A kn) k i := by
  unfold p_F p_kf
  rw [bu_ne _ _ (fun z => h8 z.1), bu_ne _ _ (fun z => hk z.1), bu_ne _ _ (fun z => h9 z.1), bu_ne _ _ (fun z => h9 z.1), bu_ne _ _ (fun z => h9 z.1), bu_ne _ _ (fun z => h9 z.1)]
theorem p_F_8 (i : Nat) : p_F A B kn heat 8 i = if i = kn then -1 else B 8 i := by
  unfold p_F p_kf
  by_cases h : i = kn
  · rw [h, if_pos rfl, bu_at]
  · rw [if_neg h, bu_ne _ _ (fun z => h z.2), bu_ne _ _ (by omega), bu_ne _ _ (by omega), bu_ne _ _ (by omega), bu_ne _ _ (by omega), bu_ne _ _ (by omega), sS_k (k := 8) (Or.inr (by decide))]
theorem p_F_0 {i : Nat} (hi : i ≠ 9) : p_F A B kn heat 0 i = B 0 i := by
  unfold p_F p_kf
  rw [bu_ne _ _ (by omega), bu_ne _ _ (by omega), bu_ne _ _ (by omega), bu_ne _ _ (by omega), bu_ne _ _ (by omega), bu_ne _ _ (by omega), sS_k (k := 0) (Or.inl (by decide))]
theorem p_F_09 : p_F A B kn heat 0 9 = B 0 9 + 1 := by
  unfold p_F p_kf
  rw [bu_ne _ _ (by omega), bu_at, sS_k (k := 0) (Or.inl (by decide))]
theorem p_F_9 (i : Nat) : p_F A B kn heat 9 i = if i = 4 * (B 0 9).toNat + 3 then sCnt A B kn heat (tw_room A kn).toNat 0 else if i = 4 * (B 0 9).toNat + 2 then heat else if i = 4 * (B 0 9).toNat + 1 then (kn : Int) else if i = 4 * (B 0 9).toNat then B 0 0 else B 9 i := by
  unfold p_F p_kf
  rw [sS_k (k := 0) (Or.inl (by decide)), sS_k (k := 0) (Or.inl (by decide)), bu_ne _ _ (by omega), bu_ne _ _ (by omega)]
  generalize (B 0 9).toNat = f
  by_cases q3 : i = 4 * f + 3
  · rw [if_pos q3, q3, bu_at]
  rw [if_neg q3, bu_ne _ _ (fun z => q3 z.2)]
  by_cases q2 : i = 4 * f + 2
  · rw [if_pos q2, q2, bu_at]
  rw [if_neg q2, bu_ne _ _ (fun z => q2 z.2)]
  by_cases q1 : i = 4 * f + 1
  · rw [if_pos q1, q1, bu_at]
  rw [if_neg q1, bu_ne _ _ (fun z => q1 z.2)]
  by_cases q0 : i = 4 * f
  · rw [if_pos q0, q0, bu_at]
  rw [if_neg q0, bu_ne _ _ (fun z => q0 z.2), sS_k (k := 9) (Or.inr (by decide))]
theorem p_F_in (hB : BI A B) {c : Nat} (hc : c < 8) (h3 : B 3 c = (kn : Int)) : p_F A B kn heat 3 c = -1 ∧ p_F A B kn heat 4 c = -1 ∧ p_F A B kn heat 5 c = sRing A B heat c ∧ p_F A B kn heat 6 c = sCrk A B heat c ∧ p_F A B kn heat 7 c = s7 A B kn heat (tw_room A kn) c := by
  have h := sS_all (heat := heat) (p := tw_room A kn) hB (Int.le_refl _) hc h3
  rw [p_F_k (by decide) (by decide) (by decide), p_F_k (by decide) (by decide) (by decide), p_F_k (by decide) (by decide) (by decide), p_F_k (by decide) (by decide) (by decide), p_F_k (by decide) (by decide) (by decide)]
  exact h
theorem p_F_out {c : Nat} (h3 : ¬ (c < 8 ∧ B 3 c = (kn : Int))) {k : Nat} (hk : 3 ≤ k ∧ k ≤ 7) : p_F A B kn heat k c = B k c := by
  rw [p_F_k (by omega) (by omega) (by omega), sS_out h3]
end PFF
/-- where the reference stands in a firing: tempers and cracks up to place p, sticking up to place q -/
def FI (A : m_T) (kn : Nat) (heat : Int) (v : Nat) (μ : m_M) (p q : Int) (μ1 : m_M) : Prop :=
  ofL v μ μ1 ∧ (∀ b c, b ≠ 47 → b ≠ 48 → b ≠ 49 → b ≠ 56 → b ≠ 57 → μ1 34 b c = μ 34 b c) ∧
  (∀ c, c < 8 → μ1 34 47 (8 * v + c) = if mB (μ 34) v 3 c = (kn : Int) ∧ mB (μ 34) v 4 c < p then sRing A (mB (μ 34) v) heat c else mB (μ 34) v 5 c) ∧
  (∀ c, c < 8 → μ1 34 48 (8 * v + c) = if mB (μ 34) v 3 c = (kn : Int) then s7 A (mB (μ 34) v) kn heat (q + 1) c else mB (μ 34) v 7 c) ∧
  (0 ≤ μ1 34 49 v ∧ μ1 34 49 v < 256) ∧
  (∀ c, c < 8 → (if tb (μ1 34 49 v) c then (1 : Int) else 0) = if mB (μ 34) v 3 c = (kn : Int) ∧ mB (μ 34) v 4 c < p then sCrk A (mB (μ 34) v) heat c else mB (μ 34) v 6 c)
theorem FI.off {A : m_T} {kn : Nat} {heat : Int} {v : Nat} {μ : m_M} {p q : Int} {μ1 μ2 : m_M} (h : FI A kn heat v μ p q μ1) (ho : offM μ1 μ2) : FI A kn heat v μ p q μ2 := by
  obtain ⟨a1, a2, a3, a4, a5, a6⟩ := h
  have e : ∀ b c, b ≠ 56 → b ≠ 57 → μ2 34 b c = μ1 34 b c := fun b c h1 h2 => ho 34 b c (by omega)
  refine ⟨a1.tr (ofL.of ho), fun b c h1 h2 h3 h4 h5 => (e b c h4 h5).trans (a2 b c h1 h2 h3 h4 h5), fun c hc => ?_, fun c hc => ?_, ?_, fun c hc => ?_⟩
  · rw [e 47 _ (by decide) (by decide)]; exact a3 c hc
  · rw [e 48 _ (by decide) (by decide)]; exact a4 c hc
  · rw [e 49 _ (by decide) (by decide)]; exact a5
  · rw [e 49 _ (by decide) (by decide)]; exact a6 c hc
