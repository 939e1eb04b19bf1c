/-! ===== the reference's formula reader: behind an operand ===== -/
def opx (t : Int) : Int := if t = 43 then 31 else if t = 45 then 32 else if t = 42 then 33 else if t = 47 then 34 else 35
def opc (t : Int) : Int := if t = 60 then 38 else if t = 62 then 39 else 40
def isAr (t : Int) : Prop := t = 43 ∨ t = 45 ∨ t = 42 ∨ t = 47 ∨ t = 37
def isCm (t : Int) : Prop := t = 60 ∨ t = 62 ∨ t = 61
def tsK (kd : Int) : Prop := kd = 1 ∨ kd = 5 ∨ kd = 6
section MO4
variable {G : m_G} {T : Nat → Int} {L b c e o : Nat} {w opd : Int} {μ0 : m_M} {fs : List Fr} {CL : List Int}
theorem Mm.popF {μ : m_M} {k0 : Int × Int × Int × Option Int} {o' : Nat} (h : Mm T L b w μ0 c e o opd ((k0, []) :: fs) CL μ) (ho : o' ≤ 100) : Mm T L b w μ0 c e o' opd fs CL (m_up (m_up μ 34 0 36 (fs.length : Int)) 34 0 37 (o' : Int)) := by
  have f : ∀ x y z, ¬ (x = 34 ∧ y = 0 ∧ (z = 36 ∨ z = 37)) → m_up (m_up μ 34 0 36 (fs.length : Int)) 34 0 37 (o' : Int) x y z = μ x y z := fun x y z q => by rw [m_up_ne _ _ (by omega), m_up_ne _ _ (by omega)]
  have q2 := Mm.q (μ1 := m_up (m_up μ 34 0 36 (fs.length : Int)) 34 0 37 (o' : Int)) h (fun x y z a => f x y z (by omega))
  obtain ⟨_, _, ⟨h36, h37, h40, h39⟩, hS, hF, ⟨h28, hC, hV⟩, hbd⟩ := h
  have ol : opA ((k0, []) :: fs) = opA fs := rfl
  rw [ol] at h39 hS hbd
  refine ⟨q2.1, q2.2, ?_, ?_, ?_, ⟨?_, ?_, ?_⟩, ?_⟩
  · rw [f 34 0 40 (by omega), f 34 0 39 (by omega), m_up_at]
    exact ⟨by rw [m_up_ne _ _ (by omega), m_up_at], rfl, h40, h39⟩
  · exact SA_up _ (fun i hi => f 34 39 i (by omega)) hS
  · exact FRM.cg fs (fun y z a _ _ => f 34 y z (by omega)) hF.2
  · rw [f 34 0 28 (by omega)]; exact h28
  · rw [codeL_congr (g := fun k => tk (μ 34 25 k) (μ 34 26 k)) _ _ (fun i _ _ => by rw [f 34 25 i (by omega), f 34 26 i (by omega)])]; exact hC
  · intro i a1 a2
    rw [f 34 25 i (by omega), f 34 26 i (by omega)]; exact hV i a1 a2
  · simp only [List.length_cons] at hbd ⊢; omega
/-- the top frame's phase anew -/
theorem Mm.ph {μ : m_M} {kd ph bg : Int} {pr : Option Int} {ops : List Int} (h : Mm T L b w μ0 c e o opd (((kd, ph, bg, pr), ops) :: fs) CL μ) (v : Int) : Mm T L b w μ0 c e o opd (((kd, v, bg, pr), ops) :: fs) CL (m_up μ 34 33 fs.length v) := by
  have hF := h.2.2.2.2.1.1
  refine h.top (fun x y z a => by rw [m_up_ne _ _ (by omega)]) ⟨?_, ?_, ?_, fun p hp => ?_⟩
  · rw [m_up_ne _ _ (by omega)]; exact hF.1
  · rw [m_up_at]
  · rw [m_up_ne _ _ (by omega)]; exact hF.2.2.1
  · rw [m_up_ne _ _ (by omega)]; exact hF.2.2.2.1 p hp
theorem Mm.bg {μ : m_M} {kd ph bg : Int} {pr : Option Int} {ops : List Int} (h : Mm T L b w μ0 c e o opd (((kd, ph, bg, pr), ops) :: fs) CL μ) (v : Int) : Mm T L b w μ0 c e o opd (((kd, ph, v, pr), ops) :: fs) CL (m_up μ 34 34 fs.length v) := by
  have hF := h.2.2.2.2.1.1
  refine h.top (fun x y z a => by rw [m_up_ne _ _ (by omega)]) ⟨?_, ?_, ?_, fun p hp => ?_⟩
  · rw [m_up_ne _ _ (by omega)]; exact hF.1
  · rw [m_up_ne _ _ (by omega)]; exact hF.2.1
  · rw [m_up_at]
  · rw [m_up_ne _ _ (by omega)]; exact hF.2.2.2.1 p hp
theorem Mm.kd {μ : m_M} {kd ph bg : Int} {pr : Option Int} {ops : List Int} (h : Mm T L b w μ0 c e o opd (((kd, ph, bg, pr), ops) :: fs) CL μ) (v : Int) : Mm T L b w μ0 c e o opd (((v, ph, bg, pr), ops) :: fs) CL (m_up μ 34 32 fs.length v) := by
  have hF := h.2.2.2.2.1.1
  refine h.top (fun x y z a => by rw [m_up_ne _ _ (by omega)]) ⟨?_, ?_, ?_, fun p hp => ?_⟩
  · rw [m_up_at]
  · rw [m_up_ne _ _ (by omega)]; exact hF.2.1
  · rw [m_up_ne _ _ (by omega)]; exact hF.2.2.1
  · rw [m_up_ne _ _ (by omega)]; exact hF.2.2.2.1 p hp
theorem mo_goesOn {d : Nat} {kd ph bg : Int} {pr : Option Int} {all : List Int} {μ : m_M} (h : Mm T L b w μ0 c e o opd (((kd, ph, bg, pr), all) :: fs) CL μ) (hc : c ≤ e) (hkd : 0 ≤ kd ∧ kd ≤ 6) {K : Int → m_M → Prop}
    (kL : tLf T L e ≠ -1 → ∀ μ1, Mf b μ0 1 (tLf T L e) μ1 → K 0 μ1)
    (kA : tLf T L e = -1 → ph < 2 → isAr (tTk T L e) → ∃ (δ ops : List Int) (o' : Nat), all = δ ++ ops ∧ o = o' + nots δ ∧ (∀ x ∈ δ, (if tTk T L e = 43 ∨ tTk T L e = 45 then 5 else 6) ≤ rk x ∧ x ≠ 0) ∧ tr ops < (if tTk T L e = 43 ∨ tTk T L e = 45 then 5 else 6) ∧ (opA (((kd, ph, bg, pr), ops) :: fs)).length ≤ 300 ∧ ∀ μ1, Mm T L b w μ0 (tEn T L e) (tEn T L e) o' 0 (((kd, ph, bg, pr), opx (tTk T L e) :: ops) :: fs) (CL ++ tks δ) μ1 → K 1 μ1)
    (kB : tLf T L e = -1 → tsK kd → ph = 0 → isCm (tTk T L e) → ∃ (δ ops : List Int) (o' : Nat), all = δ ++ ops ∧ o = o' + nots δ ∧ (∀ x ∈ δ, 5 ≤ rk x ∧ x ≠ 0) ∧ tr ops < 5 ∧ (opA (((kd, ph, bg, pr), ops) :: fs)).length ≤ 300 ∧ ∀ μ1, Mm T L b w μ0 (tEn T L e) (tEn T L e) o' 0 (((kd, 1, bg, pr), opc (tTk T L e) :: ops) :: fs) (CL ++ tks δ) μ1 → K 1 μ1)
    (kC : tLf T L e = -1 → tsK kd → ph ≠ 0 → tTk T L e = 276 ∨ tTk T L e = 277 → ∃ (δ ops : List Int) (o' : Nat), all = δ ++ ops ∧ o = o' + nots δ ∧ (∀ x ∈ δ, (if tTk T L e = 277 then 2 else 1) ≤ rk x ∧ x ≠ 0) ∧ tr ops < (if tTk T L e = 277 then 2 else 1) ∧ (opA (((kd, ph, bg, pr), ops) :: fs)).length ≤ 300 ∧ ∀ μ1, Mm T L b w μ0 (tEn T L e) (tEn T L e) o' 0 (((kd, 0, 1, pr), (if tTk T L e = 277 then 41 else 42) :: ops) :: fs) (CL ++ tks δ) μ1 → K 1 μ1)
    (kD : tLf T L e = -1 → tsK kd → ph = 0 → ¬ isAr (tTk T L e) → ¬ isCm (tTk T L e) → ∀ μ1, Mf b μ0 1 (tAt T L e : Int) μ1 → K 0 μ1)
    (kE : tLf T L e = -1 → kd < 2 → (tsK kd → ph ≠ 0 ∧ tTk T L e ≠ 276 ∧ tTk T L e ≠ 277) → (ph < 2 → ¬ isAr (tTk T L e)) → ∃ o' : Nat, o = o' + nots all ∧ (∀ x ∈ all, x ≠ 0) ∧ ∀ μ1, Mm T L b w μ0 e e o' opd (((kd, ph, bg, pr), []) :: fs) (CL ++ tks all) μ1 → K 0 μ1)
    (kF : tLf T L e = -1 → kd = 3 ∨ kd = 6 → (tsK kd → ph ≠ 0 ∧ tTk T L e ≠ 276 ∧ tTk T L e ≠ 277) → (ph < 2 → ¬ isAr (tTk T L e)) → (tTk T L e ≠ 44 → ∀ μ1, Mf b μ0 1 (tAt T L e : Int) μ1 → K 0 μ1) ∧ (tTk T L e = 44 → ∃ o' : Nat, o = o' + nots all ∧ (∀ x ∈ all, x ≠ 0) ∧ ∀ μ1, Mm T L b w μ0 (tEn T L e) (tEn T L e) o' 0 ((((if kd = 3 then 4 else 3), 0, bg, pr), []) :: fs) (CL ++ tks all) μ1 → K 1 μ1))
    (kG : tLf T L e = -1 → kd = 2 ∨ kd = 4 ∨ kd = 5 → (tsK kd → ph ≠ 0 ∧ tTk T L e ≠ 276 ∧ tTk T L e ≠ 277) → (ph < 2 → ¬ isAr (tTk T L e)) → (tTk T L e ≠ (if kd = 5 then 93 else 41) → ∀ μ1, Mf b μ0 1 (tAt T L e : Int) μ1 → K 0 μ1) ∧ (tTk T L e = (if kd = 5 then 93 else 41) → ∃ (o' : Nat) (p kd2 ph2 bg2 : Int) (pr2 : Option Int) (ops2 : List Int) (fs2 : List Fr), fs = ((kd2, ph2, bg2, pr2), ops2) :: fs2 ∧ o = o' + 1 + nots all ∧ (∀ x ∈ all, x ≠ 0) ∧ (kd = 4 → pr = some p ∧ p ≠ 0) ∧ ∀ μ1, Mm T L b w μ0 (tEn T L e) (tEn T L e) o' opd (((kd2, (if kd = 5 then 2 else ph2), bg2, pr2), ops2) :: fs2) (CL ++ tks all ++ (if kd = 4 then [tk p 0] else [])) μ1 → K 1 μ1)) : c_i G (d + 4) YX12_goesOn [vR 34 0] μ K := by
  have hbd := h.2.2.2.2.2.2
  have hL16 := h.1.2.1.2.2
  have h36 := h.2.2.1.1
  have he := h.1.2.2.2
  have hB := h.1.2.1
  have hM := h.1.2.2.1
  have hF := h.2.2.2.2.1.1
  have g1 := tAt_in (T := T) he
  have g2 := tEn_in (T := T) he
  have nend : ¬ tTk T L e = 284 → tAt T L e < L ∧ e < tEn T L e ∧ tEn T L e ≤ L ∧ e < 1600 := fun z => by
    have : tAt T L e < L := by
      by_cases y : L ≤ tAt T L e
      · exact absurd (tk_end y) z
      · omega
    have := g2.2.2 this
    omega
  simp only [List.length_cons] at h36 hbd
  refine EX12_goesOn (fun X C R => mo_lex h (fun hf => ?_) (fun hf μ1 f1 => ⟨fun z => absurd z (by rw [f1.2.1]; decide), fun _ => kL hf μ1 f1⟩))
  refine ⟨fun _ x2 e2 => ?_, fun z => absurd (by rw [h.2.1.1]; decide) z⟩
  have w1 : w32 (((fs.length + 1 : Nat) : Int) - 1) = (fs.length : Int) := by rw [w32_le (by omega) (by omega)]; omega
  rw [h36, w1] at e2
  subst e2
  refine ⟨⟨by omega, by omega⟩, fun x3 e3 => ?_⟩
  rw [Int.toNat_natCast, show μ 34 32 fs.length = kd from hF.1] at e3
  subst e3
  have hph : μ 34 33 fs.length = ph := hF.2.1
  obtain ⟨l3, hl3⟩ : ∃ l3 : Int, l3 = (if x3 = 1 ∨ x3 = 5 ∨ x3 = 6 then 1 else 0) := ⟨_, rfl⟩
  have tst0 : l3 = 0 → ¬ tsK x3 := fun z y => by rw [hl3, if_pos (show x3 = 1 ∨ x3 = 5 ∨ x3 = 6 from y)] at z; exact absurd z (by decide)
  have tst1 : ¬ l3 = 0 → tsK x3 := fun z => by
    by_cases y : x3 = 1 ∨ x3 = 5 ∨ x3 = 6
    · exact y
    · rw [hl3, if_neg y] at z; exact absurd rfl z
  -- the ends, behind a fault
  have at470F : ∀ μ1, Mf b μ0 1 (tAt T L e : Int) μ1 → K 0 μ1 → mW G X YX12_goesOn μ1 470 [some (vR 34 0), some (vI (fs.length : Int)), some (vI x3), some (vI l3), none] [] := fun μ1 f1 kk => VX12_goesOn_470 C R ⟨fun z => absurd z (by rw [f1.2.1]; decide), fun _ => kk⟩
  have at546F : ∀ μ1, Mf b μ0 1 (tAt T L e : Int) μ1 → K 0 μ1 → mW G X YX12_goesOn μ1 546 [some (vR 34 0), some (vI (fs.length : Int)), some (vI x3), some (vI l3), none] [] := fun μ1 f1 kk => VX12_goesOn_546 C R ⟨fun z => absurd z (by rw [f1.2.1]; decide), fun _ => kk⟩
  have at422F : ∀ μ1, Mf b μ0 1 (tAt T L e : Int) μ1 → K 0 μ1 → mW G X YX12_goesOn μ1 422 [some (vR 34 0), some (vI (fs.length : Int)), some (vI x3), some (vI l3), none] [] := fun μ1 f1 kk => by
    have at452 : mW G X YX12_goesOn μ1 452 [some (vR 34 0), some (vI (fs.length : Int)), some (vI x3), some (vI l3), none] [] := VX12_goesOn_452 C R (mo_sgF ⟨z0, fun _ => mo_blame2 f1 (by decide) (at470F μ1 f1 kk)⟩ ⟨fun _ => at470F μ1 f1 kk, z1⟩)
    exact VX12_goesOn_422 C R ⟨fun _ => ⟨fun _ => at452, fun _ => ⟨fun _ => ⟨fun _ => mo_sgF ⟨z0, fun _ => mo_blame2 f1 (by decide) (at546F μ1 f1 kk)⟩ ⟨fun _ => at546F μ1 f1 kk, z1⟩, fun _ => mo_sgF ⟨z0, fun _ => mo_blame2 f1 (by decide) (at546F μ1 f1 kk)⟩ ⟨fun _ => at546F μ1 f1 kk, z1⟩⟩, fun _ => at452⟩⟩, fun _ => ⟨fun _ => kk, fun z => absurd z (by rw [f1.2.1]; decide)⟩⟩
  have all1 : (∀ x ∈ all, x ≠ 0) → ∀ x ∈ all, (1 : Int) ≤ rk x ∧ x ≠ 0 := fun a x hx => ⟨(rk_in x).1, a x hx⟩
  have tr0 : tr [] < 1 := by decide
  -- the end of a frame
  have at422 : (tsK x3 → ph ≠ 0 ∧ tTk T L e ≠ 276 ∧ tTk T L e ≠ 277) → (ph < 2 → ¬ isAr (tTk T L e)) → mW G X YX12_goesOn μ 422 [some (vR 34 0), some (vI (fs.length : Int)), some (vI x3), some (vI l3), none] [] := fun a1 a2 => by
    have at452 : x3 = 3 ∨ x3 = 6 → mW G X YX12_goesOn μ 452 [some (vR 34 0), some (vI (fs.length : Int)), some (vI x3), some (vI l3), none] [] := fun hk => by
      have kk := kF hf hk a1 a2
      refine VX12_goesOn_452 C R (mo_sg hB he hM (by decide) (ite1 (fun y => ?_) (fun y => ?_)))
      · have ne := nend (by omega)
        obtain ⟨o', eo, ha, kc⟩ := kk.2 y
        subst eo
        have hh : Mm T L b w μ0 c e (o' + nots all) opd (((x3, ph, bg, pr), all ++ []) :: fs) CL μ := by rw [List.append_nil]; exact h
        refine VX12_goesOn_470 C R ⟨fun _ => mo_joins (by decide) tr0 all CL o' μ (all1 ha) hh (fun μ1 h1 => ⟨fun k3 => ⟨⟨by omega, by omega⟩, fun μ2 e2 => ⟨⟨by omega, by omega⟩, fun μ3 e3 => ?_⟩⟩, fun k3 => ⟨⟨by omega, by omega⟩, fun μ2 e2 => ⟨⟨by omega, by omega⟩, fun μ3 e3 => ?_⟩⟩⟩), fun z => absurd (by rw [h.2.1.1]; decide) z⟩
        · rw [Int.toNat_natCast] at e2 e3
          rw [e3, e2]
          rw [if_neg k3] at kc
          refine mo_aheadM (((h1.kd 3).ph 0).up (c' := tEn T L e) (by omega) (by omega)) (fun μ4 h4 μ5 e5 => ?_)
          rw [e5]
          exact kc _ (h4.sopd 0)
        · rw [Int.toNat_natCast] at e2 e3
          rw [e3, e2]
          rw [if_pos k3] at kc
          refine mo_aheadM (((h1.kd 4).ph 0).up (c' := tEn T L e) (by omega) (by omega)) (fun μ4 h4 μ5 e5 => ?_)
          rw [e5]
          exact kc _ (h4.sopd 0)
      · rw [hM.1]
        exact mo_blame h (fun μ1 f1 => at470F μ1 f1 (kk.1 y μ1 f1))
    have at546 : x3 = 2 ∨ x3 = 4 ∨ x3 = 5 → tTk T L e = (if x3 = 5 then 93 else 41) → mW G X YX12_goesOn μ 546 [some (vR 34 0), some (vI (fs.length : Int)), some (vI x3), some (vI l3), none] [] := fun hk ht => by
      have ne := nend (by split at ht <;> omega)
      obtain ⟨o', p, kd2, ph2, bg2, pr2, ops2, fs2, ef, eo, ha, hpr, kc⟩ := (kG hf hk a1 a2).2 ht
      subst eo
      have hh : Mm T L b w μ0 c e (o' + 1 + nots all) opd (((x3, ph, bg, pr), all ++ []) :: fs) CL μ := by rw [List.append_nil]; exact h
      have at596 : ∀ (μ3 : m_M) (CL3 : List Int), CL3 = CL ++ tks all ++ (if x3 = 4 then [tk p 0] else []) → Mm T L b w μ0 (tEn T L e) e o' opd fs CL3 μ3 → mW G X YX12_goesOn μ3 596 [some (vR 34 0), some (vI (fs.length : Int)), some (vI x3), some (vI l3), none] [] := fun μ3 CL3 ec h3 => by
        rw [ec, ef] at h3
        have h36 := h3.2.2.1.1
        simp only [List.length_cons] at h36
        have hl : fs.length = fs2.length + 1 := by rw [ef]; rfl
        refine VX12_goesOn_596 C R ⟨fun k5 => ?_, fun k5 => ?_⟩
        · rw [if_neg k5] at kc
          exact mo_aheadM h3 (fun μ4 h4 => kc μ4 h4)
        · rw [if_pos k5] at kc
          rw [h36, show w32 (((fs2.length + 1 : Nat) : Int) - 1) = (fs2.length : Int) by rw [w32_le (by omega) (by omega)]; omega, Int.toNat_natCast]
          refine ⟨⟨by omega, by omega⟩, fun μ4 e4 => ?_⟩
          rw [e4]
          exact mo_aheadM (h3.ph 2) (fun μ4 h4 => kc μ4 h4)
      refine VX12_goesOn_546 C R ⟨fun _ => mo_joins (by decide) tr0 all CL (o' + 1) μ (all1 ha) hh (fun μ1 h1 μ2 e2 μ3 e3 => ?_), fun z => absurd (by rw [h.2.1.1]; decide) z⟩
      have j36 := h1.2.2.1.1
      have j37 := h1.2.2.1.2.1
      have jo := h1.2.2.2.2.2.2.2.2.2.2
      simp only [List.length_cons] at j36
      rw [j36, w1] at e2
      have k37 : μ2 34 0 37 = ((o' + 1 : Nat) : Int) := by rw [e2, m_up_ne _ _ (by omega)]; exact j37
      rw [k37, show w32 (((o' + 1 : Nat) : Int) - 1) = (o' : Int) by rw [w32_le (by omega) (by omega)]; omega] at e3
      have h3 := h1.popF (o' := o') (by omega)
      rw [← e2, ← e3] at h3
      refine ⟨fun k4 => ?_, fun k4 => ⟨⟨by omega, by omega⟩, ?_⟩⟩
      · refine at596 μ3 _ ?_ (h3.up (by omega) (by omega))
        rw [if_neg k4, List.append_nil]
      · have hp := hpr k4
        have pv : μ3 34 35 fs.length = p := by
          have := h1.2.2.2.2.1.1.2.2.2.1 p hp.1
          rw [e3, m_up_ne _ _ (by omega), e2, m_up_ne _ _ (by omega)]
          exact this
        rw [Int.toNat_natCast, pv]
        refine mo_add h3 (by omega) (fun z => absurd z hp.2) (fun μ4 _ h4 => at596 μ4 _ ?_ (h4.up (by omega) (by omega)))
        rw [if_pos k4]
    refine VX12_goesOn_422 C R ⟨fun k2 => ⟨fun k3 => at452 (Or.inl k3), fun k3 => ⟨fun k6 => ⟨fun k5 => mo_sg hB he hM (by decide) (ite1 (fun y => at546 (by omega) (by rw [if_neg k5]; exact y)) (fun y => ?_)), fun k5 => mo_sg hB he hM (by decide) (ite1 (fun y => at546 (by omega) (by rw [if_pos k5]; exact y)) (fun y => ?_))⟩, fun k6 => at452 (Or.inr k6)⟩⟩, fun k2 => ⟨fun z => absurd h.2.1.1 z, fun _ => ?_⟩⟩
    · rw [hM.1]
      exact mo_blame h (fun μ1 f1 => at546F μ1 f1 ((kG hf (by omega) a1 a2).1 (by rw [if_neg k5]; exact y) μ1 f1))
    · rw [hM.1]
      exact mo_blame h (fun μ1 f1 => at546F μ1 f1 ((kG hf (by omega) a1 a2).1 (by rw [if_pos k5]; exact y) μ1 f1))
    · obtain ⟨o', eo, ha, kc⟩ := kE hf (by omega) a1 a2
      subst eo
      have hh : Mm T L b w μ0 c e (o' + nots all) opd (((x3, ph, bg, pr), all ++ []) :: fs) CL μ := by rw [List.append_nil]; exact h
      exact mo_joins (by decide) tr0 all CL o' μ (all1 ha) hh (fun μ1 h1 => kc μ1 (h1.up hc (by omega)))
  have at400 : ¬ (tsK x3 ∧ (tTk T L e = 276 ∨ tTk T L e = 277)) → (ph < 2 → ¬ isAr (tTk T L e)) → (tsK x3 → ph = 0 → ¬ isCm (tTk T L e)) → mW G X YX12_goesOn μ 400 [some (vR 34 0), some (vI (fs.length : Int)), some (vI x3), some (vI l3), none] [] := fun a0 a1 a2 => by
    refine VX12_goesOn_400 C R ⟨fun z => at422 (fun y => absurd y (tst0 z)) a1, fun z => ⟨⟨by omega, by omega⟩, ?_⟩⟩
    have ts := tst1 z
    rw [Int.toNat_natCast, hph]
    refine ⟨fun y => at422 (fun _ => ⟨y, fun u => a0 ⟨ts, Or.inl u⟩, fun u => a0 ⟨ts, Or.inr u⟩⟩) a1, fun y => ?_⟩
    rw [hM.1]
    exact mo_blame h (fun μ1 f1 => at422F μ1 f1 (kD hf ts y (a1 (by omega)) (a2 ts y) μ1 f1))
  have at309 : tsK x3 → tTk T L e = 276 ∨ tTk T L e = 277 → mW G X YX12_goesOn μ 309 [some (vR 34 0), some (vI (fs.length : Int)), some (vI x3), some (vI l3), none] [] := fun ts ht => by
    refine VX12_goesOn_309 C R ⟨⟨by omega, by omega⟩, ?_⟩
    rw [Int.toNat_natCast, hph]
    have nA : ¬ isAr (tTk T L e) := by unfold isAr; omega
    have nC : ¬ isCm (tTk T L e) := by unfold isCm; omega
    refine ⟨fun y => ?_, fun y => ?_⟩
    · have ne := nend (by omega)
      obtain ⟨δ, ops, o', ea, eo, hd, ht2, hnn, kc⟩ := kC hf ts y ht
      rw [ea] at h
      rw [eo] at h
      refine VX12_goesOn_327 C R ⟨fun _ => mo_wd hB he hM hf 21 (by decide) rfl (ite0 (fun u => ?_) (fun u => ?_)), fun z => absurd (by rw [h.2.1.1]; decide) z⟩
      · have u' : ¬ tTk T L e = 277 := by omega
        rw [if_neg u'] at hd ht2 kc
        refine mo_joins (by decide) ht2 δ CL o' μ hd h (fun μ1 h1 => ?_)
        rw [if_neg (show ¬ tTk T L e = 256 + ((21 : Nat) : Int) by omega)]
        refine ⟨fun _ => mo_hold h1 (by omega) hnn (fun μ2 h2 => ⟨⟨by omega, by omega⟩, fun μ3 e3 => ⟨⟨by omega, by omega⟩, fun μ4 e4 => ?_⟩⟩), z0⟩
        rw [Int.toNat_natCast] at e3 e4
        rw [e4, e3]
        refine mo_aheadM (((h2.ph 0).bg 1).up (c' := tEn T L e) (by omega) (by omega)) (fun μ5 h5 μ6 e6 => ?_)
        rw [e6]
        exact kc _ (h5.sopd 0)
      · have u' : tTk T L e = 277 := by omega
        rw [if_pos u'] at hd ht2 kc
        refine mo_joins (by decide) ht2 δ CL o' μ hd h (fun μ1 h1 => ?_)
        rw [if_pos (show tTk T L e = 256 + ((21 : Nat) : Int) by omega)]
        refine ⟨z1, fun _ => mo_hold h1 (by omega) hnn (fun μ2 h2 => ⟨⟨by omega, by omega⟩, fun μ3 e3 => ⟨⟨by omega, by omega⟩, fun μ4 e4 => ?_⟩⟩)⟩
        rw [Int.toNat_natCast] at e3 e4
        rw [e4, e3]
        refine mo_aheadM (((h2.ph 0).bg 1).up (c' := tEn T L e) (by omega) (by omega)) (fun μ5 h5 μ6 e6 => ?_)
        rw [e6]
        exact kc _ (h5.sopd 0)
    · rw [hM.1]
      exact mo_blame h (fun μ1 f1 => VX12_goesOn_327 C R ⟨fun z => absurd z (by rw [f1.2.1]; decide), fun _ => kD hf ts y nA nC μ1 f1⟩)
  have at285 : (ph < 2 → ¬ isAr (tTk T L e)) → (tsK x3 → ph = 0 → ¬ isCm (tTk T L e)) → mW G X YX12_goesOn μ 285 [some (vR 34 0), some (vI (fs.length : Int)), some (vI x3), some (vI l3), none] [] := fun a1 a2 => by
    refine VX12_goesOn_285 C R ⟨fun z => at400 (fun y => tst0 z y.1) a1 a2, fun z => mo_wd hB he hM hf 21 (by decide) rfl (ite1 (fun u => at309 (tst1 z) (by omega)) (fun u => mo_wd hB he hM hf 20 (by decide) rfl (ite0 (fun u2 => at400 (fun y => by omega) a1 a2) (fun u2 => at309 (tst1 z) (by omega)))))⟩
  have at228 : tsK x3 → ph = 0 → isCm (tTk T L e) → mW G X YX12_goesOn μ 228 [some (vR 34 0), some (vI (fs.length : Int)), some (vI x3), some (vI l3), none] [] := fun ts hp ht => by
    obtain ⟨δ, ops, o', ea, eo, hd, ht2, hnn, kc⟩ := kB hf ts hp ht
    have ne := nend (by unfold isCm at ht; omega)
    rw [ea] at h
    rw [eo] at h
    refine VX12_goesOn_228 C R (mo_joins (by decide) ht2 δ CL o' μ hd h (fun μ1 h1 => ?_))
    have fin : ∀ x : Int, x = opc (tTk T L e) → c_v G (d + 3) YX12_holdsBack [vR 34 0, vI x] μ1 (fun μ6 => (0 ≤ (fs.length : Int) ∧ (fs.length : Int) < 20) ∧ ∀ μ7 : m_M, μ7 = m_up μ6 34 33 (fs.length : Int).toNat 1 → c_v G (d + 3) YX12_ahead [vR 34 0] μ7 (fun μ8 => ∀ μ9 : m_M, μ9 = m_up μ8 34 0 40 0 → K 1 μ9)) := fun x hx => by
      refine mo_hold h1 (by omega) hnn (fun μ2 h2 => ⟨⟨by omega, by omega⟩, fun μ3 e3 => ?_⟩)
      rw [Int.toNat_natCast] at e3
      rw [e3]
      refine mo_aheadM ((h2.ph 1).up (c' := tEn T L e) (by omega) (by omega)) (fun μ5 h5 μ6 e6 => ?_)
      rw [e6]
      rw [hx] at h5
      exact kc _ (h5.sopd 0)
    unfold opc at fin
    refine mo_sg h1.1.2.1 he h1.1.2.2.1 (by decide) (ite0 (fun u1 => mo_sg h1.1.2.1 he h1.1.2.2.1 (by decide) (ite0 (fun u2 => fin 40 ?_) (fun u2 => fin 39 ?_))) (fun u1 => fin 38 ?_))
    · rw [if_neg u1, if_neg u2]
    · rw [if_neg u1, if_pos u2]
    · rw [if_pos u1]
  have at188 : (ph < 2 → ¬ isAr (tTk T L e)) → mW G X YX12_goesOn μ 188 [some (vR 34 0), some (vI (fs.length : Int)), some (vI x3), some (vI l3), none] [] := fun a1 => by
    refine VX12_goesOn_188 C R ⟨fun z => at285 a1 (fun y => absurd y (tst0 z)), fun z => ⟨⟨by omega, by omega⟩, ?_⟩⟩
    rw [Int.toNat_natCast, hph]
    refine ⟨fun y => at285 a1 (fun _ u => absurd u y), fun y => mo_sg hB he hM (by decide) (ite1 (fun u => at228 (tst1 z) y (Or.inl u)) (fun u => mo_sg hB he hM (by decide) (ite1 (fun u2 => at228 (tst1 z) y (Or.inr (Or.inl u2))) (fun u2 => mo_sg hB he hM (by decide) (ite0 (fun u3 => at285 a1 (fun _ _ v => ?_)) (fun u3 => at228 (tst1 z) y (Or.inr (Or.inr u3))))))))⟩
    unfold isCm at v
    omega
  have at87 : ph < 2 → isAr (tTk T L e) → mW G X YX12_goesOn μ 87 [some (vR 34 0), some (vI (fs.length : Int)), some (vI x3), some (vI l3), none] [] := fun hp ht => by
    obtain ⟨δ, ops, o', ea, eo, hd, ht2, hnn, kc⟩ := kA hf hp ht
    have ht' := ht
    unfold isAr at ht'
    have ne := nend (by omega)
    rw [ea] at h
    rw [eo] at h
    have fin : ∀ (μ1 : m_M), Mm T L b w μ0 c e o' opd (((x3, ph, bg, pr), ops) :: fs) (CL ++ tks δ) μ1 → ∀ x : Int, x = opx (tTk T L e) → c_v G (d + 3) YX12_holdsBack [vR 34 0, vI x] μ1 (fun μ12 => c_v G (d + 3) YX12_ahead [vR 34 0] μ12 (fun μ13 => ∀ μ14 : m_M, μ14 = m_up μ13 34 0 40 0 → K 1 μ14)) := fun μ1 h1 x hx => by
      refine mo_hold h1 (by omega) hnn (fun μ2 h2 => ?_)
      refine mo_aheadM (h2.up (c' := tEn T L e) (by omega) (by omega)) (fun μ5 h5 μ6 e6 => ?_)
      rw [e6]
      rw [hx] at h5
      exact kc _ (h5.sopd 0)
    unfold opx at fin
    have low : (tTk T L e = 43 ∨ tTk T L e = 45) → ∀ K2 : m_M → Prop, (∀ μ1, Mm T L b w μ0 c e o' opd (((x3, ph, bg, pr), ops) :: fs) (CL ++ tks δ) μ1 → K2 μ1) → c_v G (d + 3) YX12_joins [vR 34 0, vI 5] μ K2 := fun u K2 k2 => by
      rw [if_pos u] at ht2
      exact mo_joins (by decide) ht2 δ CL o' μ (fun x hx => by have := hd x hx; rw [if_pos u] at this; exact this) h k2
    have high : ¬ (tTk T L e = 43 ∨ tTk T L e = 45) → ∀ K2 : m_M → Prop, (∀ μ1, Mm T L b w μ0 c e o' opd (((x3, ph, bg, pr), ops) :: fs) (CL ++ tks δ) μ1 → K2 μ1) → c_v G (d + 3) YX12_joins [vR 34 0, vI 6] μ K2 := fun u K2 k2 => by
      rw [if_neg u] at ht2
      exact mo_joins (by decide) ht2 δ CL o' μ (fun x hx => by have := hd x hx; rw [if_neg u] at this; exact this) h k2
    have tail : ∀ μ3, Mm T L b w μ0 c e o' opd (((x3, ph, bg, pr), ops) :: fs) (CL ++ tks δ) μ3 → c_i G (d + 3) YX12_isSign [vR 34 0, vI 43] μ3 (fun r5 μ4 => ((r5 = 0) → c_i G (d + 3) YX12_isSign [vR 34 0, vI 45] μ4 (fun r7 μ6 => ((r7 = 0) → c_i G (d + 3) YX12_isSign [vR 34 0, vI 42] μ6 (fun r9 μ8 => ((r9 = 0) → c_i G (d + 3) YX12_isSign [vR 34 0, vI 47] μ8 (fun r11 μ10 => ((r11 = 0) → c_v G (d + 3) YX12_holdsBack [vR 34 0, vI 35] μ10 (fun μ12 => c_v G (d + 3) YX12_ahead [vR 34 0] μ12 (fun μ13 => ∀ μ14 : m_M, μ14 = m_up μ13 34 0 40 0 → K 1 μ14))) ∧ ((¬ r11 = 0) → c_v G (d + 3) YX12_holdsBack [vR 34 0, vI 34] μ10 (fun μ15 => c_v G (d + 3) YX12_ahead [vR 34 0] μ15 (fun μ16 => ∀ μ17 : m_M, μ17 = m_up μ16 34 0 40 0 → K 1 μ17))))) ∧ ((¬ r9 = 0) → c_v G (d + 3) YX12_holdsBack [vR 34 0, vI 33] μ8 (fun μ18 => c_v G (d + 3) YX12_ahead [vR 34 0] μ18 (fun μ19 => ∀ μ20 : m_M, μ20 = m_up μ19 34 0 40 0 → K 1 μ20))))) ∧ ((¬ r7 = 0) → c_v G (d + 3) YX12_holdsBack [vR 34 0, vI 32] μ6 (fun μ21 => c_v G (d + 3) YX12_ahead [vR 34 0] μ21 (fun μ22 => ∀ μ23 : m_M, μ23 = m_up μ22 34 0 40 0 → K 1 μ23))))) ∧ ((¬ r5 = 0) → c_v G (d + 3) YX12_holdsBack [vR 34 0, vI 31] μ4 (fun μ24 => c_v G (d + 3) YX12_ahead [vR 34 0] μ24 (fun μ25 => ∀ μ26 : m_M, μ26 = m_up μ25 34 0 40 0 → K 1 μ26)))) := fun μ3 h1 => by
      have hB1 := h1.1.2.1
      have hM1 := h1.1.2.2.1
      refine mo_sg hB1 he hM1 (by decide) (ite0 (fun u1 => mo_sg hB1 he hM1 (by decide) (ite0 (fun u2 => mo_sg hB1 he hM1 (by decide) (ite0 (fun u3 => mo_sg hB1 he hM1 (by decide) (ite0 (fun u4 => fin μ3 h1 35 ?_) (fun u4 => fin μ3 h1 34 ?_))) (fun u3 => fin μ3 h1 33 ?_))) (fun u2 => fin μ3 h1 32 ?_))) (fun u1 => fin μ3 h1 31 ?_))
      · rw [if_neg u1, if_neg u2, if_neg u3, if_neg u4]
      · rw [if_neg u1, if_neg u2, if_neg u3, if_pos u4]
      · rw [if_neg u1, if_neg u2, if_pos u3]
      · rw [if_neg u1, if_pos u2]
      · rw [if_pos u1]
    refine VX12_goesOn_87 C R (mo_sg hB he hM (by decide) (ite1 (fun u => low (Or.inl u) _ tail) (fun u => mo_sg hB he hM (by decide) (ite0 (fun u2 => high (by omega) _ tail) (fun u2 => low (Or.inr u2) _ tail)))))
  rw [Int.toNat_natCast]
  refine mo_isTest ?_
  rw [← hl3, hph]
  refine ⟨⟨by omega, by omega⟩, fun y => at188 (fun z => by omega), fun y => ?_⟩
  refine mo_sg hB he hM (by decide) (ite1 (fun u => at87 (by omega) (Or.inl u)) (fun u1 => ?_))
  refine mo_sg hB he hM (by decide) (ite1 (fun u => at87 (by omega) (Or.inr (Or.inl u))) (fun u2 => ?_))
  refine mo_sg hB he hM (by decide) (ite1 (fun u => at87 (by omega) (Or.inr (Or.inr (Or.inl u)))) (fun u3 => ?_))
  refine mo_sg hB he hM (by decide) (ite1 (fun u => at87 (by omega) (Or.inr (Or.inr (Or.inr (Or.inl u))))) (fun u4 => ?_))
  refine mo_sg hB he hM (by decide) (ite0 (fun u5 => at188 (fun _ v => ?_)) (fun u => at87 (by omega) (Or.inr (Or.inr (Or.inr (Or.inr u))))))
  unfold isAr at v
  omega
end MO4
