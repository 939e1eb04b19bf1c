/-! ===== the reference's formula reader: opening, and emptying the held operators ===== -/
def rk (x : Int) : Int := if x = 42 then 1 else if x = 41 then 2 else if x = 43 then 3 else if x = 38 ∨ x = 39 ∨ x = 40 then 4 else if x = 31 ∨ x = 32 then 5 else 6
def tr : List Int → Int
  | [] => 0
  | x :: _ => rk x
def nots : List Int → Nat
  | [] => 0
  | x :: r => nots r + (if x = 43 then 1 else 0)
def tks (δ : List Int) : List Int := δ.map (fun x => tk x 0)
theorem rk_in (x : Int) : 1 ≤ rk x ∧ rk x ≤ 6 := by
  unfold rk
  repeat' split
  all_goals omega
theorem mo_rank {G : m_G} {d : Nat} {μ : m_M} {x : Int} {K : Int → m_M → Prop} (k : K (rk x) μ) : c_i G (d + 1) YX12_rank [vI x] μ K := by
  refine EX12_rank ?_
  unfold rk at k
  refine ⟨fun h1 => ?_, fun h1 => by rw [if_pos h1] at k; exact k⟩
  rw [if_neg h1] at k
  refine ⟨fun h2 => ?_, fun h2 => by rw [if_pos h2] at k; exact k⟩
  rw [if_neg h2] at k
  refine ⟨fun h3 => ?_, fun h3 => by rw [if_pos h3] at k; exact k⟩
  rw [if_neg h3] at k
  refine ⟨fun h4 => by rw [if_pos (Or.inl h4)] at k; exact k, fun h4 => ⟨fun h5 => by rw [if_pos (Or.inr (Or.inl h5))] at k; exact k, fun h5 => ⟨fun h6 => ?_, fun h6 => by rw [if_pos (Or.inr (Or.inr h6))] at k; exact k⟩⟩⟩
  rw [if_neg (by omega)] at k
  refine ⟨fun h7 => by rw [if_pos (Or.inl h7)] at k; exact k, fun h7 => ⟨fun h8 => ?_, fun h8 => by rw [if_pos (Or.inr h8)] at k; exact k⟩⟩
  rw [if_neg (by omega)] at k
  exact k
theorem mo_isTest {G : m_G} {d : Nat} {μ : m_M} {x : Int} {K : Int → m_M → Prop} (k : K (if x = 1 ∨ x = 5 ∨ x = 6 then 1 else 0) μ) : c_i G (d + 1) YX12_isTest [vI x] μ K := by
  refine EX12_isTest ⟨fun h1 => by rw [if_pos (Or.inl h1)] at k; exact k, fun h1 => ⟨fun h5 => by rw [if_pos (Or.inr (Or.inl h5))] at k; exact k, fun h5 => ⟨fun h6 => ?_, fun h6 => by rw [if_pos (Or.inr (Or.inr h6))] at k; exact k⟩⟩⟩
  rw [if_neg (by omega)] at k
  exact k
section MO2
variable {G : m_G} {T : Nat → Int} {L b c e o : Nat} {w opd : Int} {μ0 : m_M} {fs : List Fr} {CL : List Int}
theorem mo_blame {d : Nat} {μ : m_M} (h : Mm T L b w μ0 c e o opd fs CL μ) {a p : Int} {K : m_M → Prop} (k : ∀ μ1, Mf b μ0 a p μ1 → K μ1) (ha : 0 < a := by decide) : c_v G (d + 1) YX12_blame [vR 34 0, vI a, vI p] μ K := by
  refine EX12_blame ⟨fun _ μ1 e1 μ2 e2 => k μ2 ⟨h.1.1.tr ?_, by rw [e2, m_up_ne _ _ (by omega), e1, m_up_at], by rw [e2, m_up_at], ha⟩, fun q => absurd (by rw [h.2.1.1]; decide) q⟩
  intro x y z q
  rw [e2, m_up_ne _ _ (by omega), e1, m_up_ne _ _ (by omega)]
/-- a second word of fault changes nothing -/
theorem mo_blame2 {d : Nat} {μ : m_M} {k0 p0 : Int} (h : Mf b μ0 k0 p0 μ) (h0 : 0 < k0) {a p : Int} {K : m_M → Prop} (k : K μ) : c_v G (d + 1) YX12_blame [vR 34 0, vI a, vI p] μ K := EX12_blame ⟨fun q => absurd q (by rw [h.2.1]; omega), fun _ => k⟩
theorem mo_lex {d : Nat} {μ : m_M} (h : Mm T L b w μ0 c e o opd fs CL μ) {K : m_M → Prop} (k : tLf T L e = -1 → K μ) (kf : tLf T L e ≠ -1 → ∀ μ1, Mf b μ0 1 (tLf T L e) μ1 → K μ1) : c_v G (d + 2) YX12_lex [vR 34 0] μ K := by
  have h12 := h.1.2.2.1.2.2.1
  refine EX12_lex ?_
  rw [h12]
  exact ⟨k, fun q => mo_blame h (kf q)⟩
theorem mo_pushes {d : Nat} {μ : m_M} (h : Mm T L b w μ0 c e o opd fs CL μ) (hn : fs.length ≤ 18) {kd : Int} {K : m_M → Prop} (k : ∀ μ1, Mm T L b w μ0 c e o opd (((kd, 0, 1, none), []) :: fs) CL μ1 → K μ1) : c_v G (d + 1) YX12_pushes [vR 34 0, vI kd] μ K := by
  have hq := fun μ1 => Mm.q (μ1 := μ1) h
  obtain ⟨_, _, ⟨h36, h37, h40, h39⟩, hS, hF, ⟨h28, hC, hV⟩, hbd⟩ := h
  refine EX12_pushes ?_
  rw [h36, Int.toNat_natCast]
  refine ⟨⟨by omega, by omega⟩, fun μ1 e1 => ?_⟩
  have a1 : μ1 34 0 36 = (fs.length : Int) := by rw [e1, m_up_ne _ _ (by omega)]; exact h36
  rw [a1, Int.toNat_natCast]
  refine ⟨⟨by omega, by omega⟩, fun μ2 e2 => ?_⟩
  have a2 : μ2 34 0 36 = (fs.length : Int) := by rw [e2, m_up_ne _ _ (by omega)]; exact a1
  rw [a2, Int.toNat_natCast]
  refine ⟨⟨by omega, by omega⟩, fun μ3 e3 => ?_⟩
  have a3 : μ3 34 0 36 = (fs.length : Int) := by rw [e3, m_up_ne _ _ (by omega)]; exact a2
  rw [a3, Int.toNat_natCast]
  refine ⟨⟨by omega, by omega⟩, fun μ4 e4 μ5 e5 => k μ5 ?_⟩
  have a4 : μ4 34 0 36 = (fs.length : Int) := by rw [e4, m_up_ne _ _ (by omega)]; exact a3
  rw [a4, w32_s (by omega)] at e5
  have o3 : μ3 34 0 39 = ((opA fs).length : Int) := by rw [e3, m_up_ne _ _ (by omega), e2, m_up_ne _ _ (by omega), e1, m_up_ne _ _ (by omega)]; exact h39
  rw [o3] at e4
  have f : ∀ x y z, ¬ (x = 34 ∧ ((y = 0 ∧ z = 36) ∨ (32 ≤ y ∧ y ≤ 36 ∧ z = fs.length))) → μ5 x y z = μ x y z := fun x y z q => by rw [e5, m_up_ne _ _ (by omega), e4, m_up_ne _ _ (by omega), e3, m_up_ne _ _ (by omega), e2, m_up_ne _ _ (by omega), e1, m_up_ne _ _ (by omega)]
  have q5 := hq μ5 (fun x y z a => f x y z (by omega))
  refine ⟨q5.1, q5.2, ?_, ?_, ⟨⟨?_, ?_, ?_, ?_, ?_⟩, ?_⟩, ⟨?_, ?_, ?_⟩, ?_⟩
  · rw [f 34 0 37 (by omega), f 34 0 40 (by omega), f 34 0 39 (by omega)]
    exact ⟨by rw [e5, m_up_at]; rfl, h37, h40, h39⟩
  · exact SA_up _ (fun i hi => f 34 39 i (by omega)) hS
  · rw [e5, m_up_ne _ _ (by omega), e4, m_up_ne _ _ (by omega), e3, m_up_ne _ _ (by omega), e2, m_up_ne _ _ (by omega), e1, m_up_at]
  · rw [e5, m_up_ne _ _ (by omega), e4, m_up_ne _ _ (by omega), e3, m_up_ne _ _ (by omega), e2, m_up_at]
  · rw [e5, m_up_ne _ _ (by omega), e4, m_up_ne _ _ (by omega), e3, m_up_at]
  · exact fun p z => by cases z
  · rw [e5, m_up_ne _ _ (by omega), e4, m_up_at]
  · exact FRM.cg fs (fun y z a _ _ => f 34 y z (by omega)) hF
  · rw [f 34 0 28 (by omega)]; exact h28
  · rw [codeL_congr (g := fun k => tk (μ 34 25 k) (μ 34 26 k)) _ _ (fun i _ _ => by rw [f 34 25 i (by omega), f 34 26 i (by omega)])]; exact hC
  · intro i a1 a2
    rw [f 34 25 i (by omega), f 34 26 i (by omega)]; exact hV i a1 a2
  · show CL.length + (opA fs).length ≤ c ∧ c ≤ 1600 ∧ fs.length + 1 ≤ 19 ∧ (opA fs).length ≤ 400 ∧ o ≤ 100
    omega
theorem mo_opens {d : Nat} {μ : m_M} (h : Mm T L b w μ0 c e o opd fs CL μ) (ho : o ≤ 7) (hn : fs.length ≤ 18) {kd : Int} {K : m_M → Prop} (k : o < 7 → ∀ μ1, Mm T L b w μ0 c (tEn T L e) (o + 1) opd (((kd, 0, 1, none), []) :: fs) CL μ1 → K μ1) (kf : o = 7 → ∀ μ1, Mf b μ0 5 (tAt T L e : Int) μ1 → K μ1) : c_v G (d + 3) YX12_opens [vR 34 0, vI kd] μ K := by
  have h37 := h.2.2.1.2.1
  have h8 := h.2.1.1
  have h4 := h.1.2.2.1.1
  refine EX12_opens (fun X C R => ?_)
  rw [h37, h4]
  refine ⟨fun q => VX12_opens_18 C R ⟨fun _ μ1 e1 => ?_, fun z => absurd (by rw [h8]; decide) z⟩, fun q => mo_blame h (fun μ1 f => VX12_opens_18 C R ⟨fun z => absurd z (by rw [f.2.1]; decide), fun _ => kf (by omega) μ1 f⟩)⟩
  rw [h37, w32_s (by omega)] at e1
  rw [e1]
  exact mo_aheadM (h.opn (by omega)) (fun μ2 h2 => mo_pushes h2 hn (fun μ3 h3 => k (by omega) μ3 h3))
theorem opA_cons (k0 : Int × Int × Int × Option Int) (x : Int) (l : List Int) (fs : List Fr) : opA ((k0, x :: l) :: fs) = x :: opA ((k0, l) :: fs) := rfl
theorem Mm.pop {μ : m_M} {k0 : Int × Int × Int × Option Int} {x : Int} {l : List Int} (h : Mm T L b w μ0 c e o opd ((k0, x :: l) :: fs) CL μ) : Mm T L b w μ0 (c - 1) e o opd ((k0, l) :: fs) CL (m_up μ 34 0 39 ((opA ((k0, l) :: fs)).length : Int)) ∧ c - 1 < c ∧ μ 34 39 (opA ((k0, l) :: fs)).length = x ∧ μ 34 36 fs.length ≤ ((opA ((k0, l) :: fs)).length : Int) := by
  have f : ∀ x y z, ¬ (x = 34 ∧ y = 0 ∧ z = 39) → m_up μ 34 0 39 ((opA ((k0, l) :: fs)).length : Int) x y z = μ x y z := fun x y z q => m_up_ne _ _ (by omega)
  have q2 := Mm.q (μ1 := m_up μ 34 0 39 ((opA ((k0, l) :: fs)).length : Int)) h (fun x y z a => f x y z (by omega))
  obtain ⟨_, _, ⟨h36, h37, h40, h39⟩, hS, hF, ⟨h28, hC, hV⟩, hbd⟩ := h
  have ol : (opA ((k0, x :: l) :: fs)).length = (opA ((k0, l) :: fs)).length + 1 := rfl
  have hS' : μ 34 39 (opA ((k0, l) :: fs)).length = x ∧ SA (μ 34 39) (opA ((k0, l) :: fs)) := hS
  have lb : (opA fs).length ≤ (opA ((k0, l) :: fs)).length := by show _ ≤ (l ++ opA fs).length; rw [List.length_append]; omega
  rw [ol] at hbd
  refine ⟨⟨q2.1, q2.2, ?_, ?_, ?_, ⟨?_, ?_, ?_⟩, ?_⟩, by omega, hS'.1, ?_⟩
  · rw [f 34 0 36 (by omega), f 34 0 37 (by omega), f 34 0 40 (by omega), m_up_at]
    exact ⟨h36, h37, h40, rfl⟩
  · exact SA_up _ (fun i hi => f 34 39 i (by omega)) hS'.2
  · exact FRM.cg ((k0, l) :: fs) (fun y z a _ _ => f 34 y z (by omega)) hF
  · rw [f 34 0 28 (by omega)]; exact h28
  · rw [codeL_congr (g := fun k => tk (μ 34 25 k) (μ 34 26 k)) _ _ (fun i _ _ => by rw [f 34 25 i (by omega), f 34 26 i (by omega)])]; exact hC
  · intro i a1 a2
    rw [f 34 25 i (by omega), f 34 26 i (by omega)]; exact hV i a1 a2
  · simp only [List.length_cons] at hbd ⊢; omega
  · have : μ 34 36 fs.length = ((opA fs).length : Int) := hF.1.2.2.2.2
    omega
def FJ (G : m_G) (X : m_X) (d : Nat) (K : m_M → Prop) (μ : m_M) (a1 : Int) : Prop := (0 ≤ w32 ((μ 34 0 36) - 1) ∧ w32 ((μ 34 0 36) - 1) < 20) ∧ ((μ 34 0 39 ≤ μ 34 36 (w32 ((μ 34 0 36) - 1)).toNat) → K μ) ∧ ((¬ μ 34 0 39 ≤ μ 34 36 (w32 ((μ 34 0 36) - 1)).toNat) → (0 ≤ w32 ((μ 34 0 39) - 1) ∧ w32 ((μ 34 0 39) - 1) < 500) ∧ c_i G d YX12_rank [vI (μ 34 39 (w32 ((μ 34 0 39) - 1)).toNat)] μ (fun r2 μ1 => ((r2 < a1) → K μ1) ∧ ((¬ r2 < a1) → ∀ μ3 : m_M, μ3 = m_up μ1 34 0 39 (w32 ((μ1 34 0 39) - 1)) → (0 ≤ μ3 34 0 39 ∧ μ3 34 0 39 < 500) ∧ c_v G d YX12_add [vR 34 0, vI (μ3 34 39 (μ3 34 0 39).toNat), vI 0] μ3 (fun μ4 => (0 ≤ μ4 34 0 39 ∧ μ4 34 0 39 < 500) ∧ ((¬ (μ4 34 39 (μ4 34 0 39).toNat) = 43) → mW G X YX12_joins μ4 0 [some (vR 34 0), some (vI a1)] []) ∧ ((μ4 34 39 (μ4 34 0 39).toNat = 43) → ∀ μ5 : m_M, μ5 = m_up μ4 34 0 37 (w32 ((μ4 34 0 37) - 1)) → mW G X YX12_joins μ5 0 [some (vR 34 0), some (vI a1)] [])))))
theorem mo_joins {d : Nat} {k0 : Int × Int × Int × Option Int} {ops : List Int} {lst : Int} (hl : 1 ≤ lst) (ht : tr ops < lst) {K : m_M → Prop} (δ CL : List Int) (o : Nat) (μ : m_M) (hδ : ∀ x ∈ δ, lst ≤ rk x ∧ x ≠ 0) (h : Mm T L b w μ0 c e (o + nots δ) opd ((k0, δ ++ ops) :: fs) CL μ) (k : ∀ μ1, Mm T L b w μ0 c e o opd ((k0, ops) :: fs) (CL ++ tks δ) μ1 → K μ1) : c_v G (d + 2) YX12_joins [vR 34 0, vI lst] μ K := by
  refine EX12_joins (fun X C R => ?_)
  show FJ G X (d + 1) K μ lst
  revert CL o μ
  induction δ with
  | nil =>
    intro CL o μ h k
    have hs : tks [] = [] := rfl
    rw [hs, List.append_nil] at k
    have h : Mm T L b w μ0 c e o opd ((k0, ops) :: fs) CL μ := h
    have h36 := h.2.2.1.1
    have h39 := h.2.2.1.2.2.2
    have hbd := h.2.2.2.2.2.2
    have w1 : w32 (((((k0, ops) :: fs : List Fr).length : Nat) : Int) - 1) = (fs.length : Int) := by
      simp only [List.length_cons] at hbd ⊢
      rw [w32_le (by omega) (by omega)]; omega
    unfold FJ
    simp only [List.length_cons] at hbd
    rw [h36, w1, h39, Int.toNat_natCast]
    refine ⟨⟨by omega, by omega⟩, fun _ => k μ h, fun q => ?_⟩
    have hF : μ 34 36 fs.length = ((opA fs).length : Int) := h.2.2.2.2.1.1.2.2.2.2
    cases ops with
    | nil => exact absurd (by rw [hF]; exact Int.le_refl _) q
    | cons x l =>
      obtain ⟨_, _, px, _⟩ := h.pop
      have ol : (opA ((k0, x :: l) :: fs)).length = (opA ((k0, l) :: fs)).length + 1 := rfl
      rw [ol] at hbd ⊢
      have w2 : w32 ((((opA ((k0, l) :: fs)).length + 1 : Nat) : Int) - 1) = ((opA ((k0, l) :: fs)).length : Int) := by rw [w32_le (by omega) (by omega)]; omega
      rw [w2, Int.toNat_natCast, px]
      exact ⟨⟨by omega, by omega⟩, mo_rank ⟨fun _ => k μ h, fun z => absurd ht z⟩⟩
  | cons x δ ih =>
    intro CL o μ h k
    have hx := hδ x (List.mem_cons_self ..)
    have h36 := h.2.2.1.1
    have h39 := h.2.2.1.2.2.2
    have hbd := h.2.2.2.2.2.2
    obtain ⟨hp, hlt, px, pb⟩ := h.pop
    have w1 : w32 (((((k0, x :: δ ++ ops) :: fs : List Fr).length : Nat) : Int) - 1) = (fs.length : Int) := by
      simp only [List.length_cons] at hbd ⊢
      rw [w32_le (by omega) (by omega)]; omega
    have ol : (opA ((k0, x :: δ ++ ops) :: fs)).length = (opA ((k0, δ ++ ops) :: fs)).length + 1 := rfl
    rw [ol] at hbd h39
    have w2 : w32 ((((opA ((k0, δ ++ ops) :: fs)).length + 1 : Nat) : Int) - 1) = ((opA ((k0, δ ++ ops) :: fs)).length : Int) := by rw [w32_le (by omega) (by omega)]; omega
    unfold FJ
    simp only [List.length_cons] at hbd
    have pb : μ 34 36 fs.length ≤ ((opA ((k0, δ ++ ops) :: fs)).length : Int) := pb
    have px : μ 34 39 (opA ((k0, δ ++ ops) :: fs)).length = x := px
    have hp : Mm T L b w μ0 (c - 1) e (o + nots (x :: δ)) opd ((k0, δ ++ ops) :: fs) CL (m_up μ 34 0 39 ((opA ((k0, δ ++ ops) :: fs)).length : Int)) := hp
    rw [h36, w1, h39, Int.toNat_natCast, w2, Int.toNat_natCast, px]
    refine ⟨⟨by omega, by omega⟩, fun q => by omega, fun _ => ⟨⟨by omega, by omega⟩, mo_rank ⟨fun q => by omega, fun _ μ3 e3 => ?_⟩⟩⟩
    rw [h39, w2] at e3
    rw [← e3] at hp
    have v3 : μ3 34 0 39 = ((opA ((k0, δ ++ ops) :: fs)).length : Int) := by rw [e3, m_up_at]
    have x3 : μ3 34 39 (opA ((k0, δ ++ ops) :: fs)).length = x := by rw [e3, m_up_ne _ _ (by omega)]; exact px
    rw [v3, Int.toNat_natCast, x3]
    refine ⟨⟨by omega, by omega⟩, mo_add hp (by omega) (fun z => absurd z hx.2) (fun μ4 f4 h4 => ?_)⟩
    have v4 : μ4 34 0 39 = ((opA ((k0, δ ++ ops) :: fs)).length : Int) := h4.2.2.1.2.2.2
    rw [v4, Int.toNat_natCast, f4 39 _ (by decide), x3]
    have h4 := h4.up (c' := c) (by omega) (by omega)
    have kk : ∀ μ1, Mm T L b w μ0 c e o opd ((k0, ops) :: fs) (CL ++ [tk x 0] ++ tks δ) μ1 → K μ1 := fun μ1 h1 => k μ1 (by rw [List.append_assoc] at h1; exact h1)
    refine ⟨⟨by omega, by omega⟩, fun q => ?_, fun q μ5 e5 => ?_⟩
    · have hn : o + nots (x :: δ) = o + nots δ := by show o + (nots δ + _) = _; rw [if_neg q, Nat.add_zero]
      rw [hn] at h4
      exact VX12_joins_0 C R (ih (fun y hy => hδ y (List.mem_cons_of_mem _ hy)) _ o μ4 h4 kk)
    · have hn : o + nots (x :: δ) = o + nots δ + 1 := by show o + (nots δ + _) = _; rw [if_pos q]; omega
      rw [hn] at h4
      have h37 := h4.2.2.1.2.1
      have ho := h4.2.2.2.2.2.2.2.2.2.2
      rw [h37, show w32 (((o + nots δ + 1 : Nat) : Int) - 1) = ((o + nots δ : Nat) : Int) by rw [w32_le (by omega) (by omega)]; omega] at e5
      have h5 := h4.opn (o' := o + nots δ) (by omega)
      rw [← e5] at h5
      exact VX12_joins_0 C R (ih (fun y hy => hδ y (List.mem_cons_of_mem _ hy)) _ o μ5 h5 kk)
end MO2
