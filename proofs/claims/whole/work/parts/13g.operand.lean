/-! ===== the reference's formula reader: an operand ===== -/
def fstP (kd bg : Int) : Prop := (kd = 1 ∨ kd = 5 ∨ kd = 6) ∧ bg ≠ 0
theorem mo_sgF {G : m_G} {d : Nat} {μ : m_M} {c : Int} {K : Int → m_M → Prop} (k0 : K 0 μ) (k1 : K 1 μ) : c_i G (d + 1) YX12_isSign [vR 34 0, vI c] μ K := EX12_isSign ⟨fun _ => k0, fun _ => ⟨fun _ => k0, fun _ => k1⟩⟩
theorem mo_opensF {G : m_G} {d b : Nat} {μ0 μ : m_M} {k p : Int} (h : Mf b μ0 k p μ) (h0 : 0 < k) {kd : Int} {K : m_M → Prop} (kk : K μ) : c_v G (d + 3) YX12_opens [vR 34 0, vI kd] μ K := by
  have at18 : ∀ X, mC G X YX12_opens (d + 3) → r_v G X K → mW G X YX12_opens μ 18 [some (vR 34 0), some (vI kd)] [] := fun X C R => VX12_opens_18 C R ⟨fun q => absurd q (by rw [h.2.1]; omega), fun _ => kk⟩
  exact EX12_opens (fun X C R => ⟨fun _ => at18 X C R, fun _ => mo_blame2 h h0 (at18 X C R)⟩)
theorem ite1 {P : Prop} [Decidable P] {A B : Prop} (h1 : P → A) (h0 : ¬ P → B) : (¬ (if P then (1 : Int) else 0) = 0 → A) ∧ ((if P then (1 : Int) else 0) = 0 → B) := by
  by_cases h : P
  · rw [if_pos h]; exact ⟨fun _ => h1 h, z1⟩
  · rw [if_neg h]; exact ⟨z0, fun _ => h0 h⟩
theorem ite0 {P : Prop} [Decidable P] {A B : Prop} (h0 : ¬ P → B) (h1 : P → A) : ((if P then (1 : Int) else 0) = 0 → B) ∧ (¬ (if P then (1 : Int) else 0) = 0 → A) := ⟨(ite1 h1 h0).2, (ite1 h1 h0).1⟩
def prOf (t : Int) : Int := if t = 280 then 36 else if t = 281 then 37 else 44
section MO3
variable {G : m_G} {T : Nat → Int} {L b c e o q : Nat} {opd : Int} {μ0 : m_M} {fs : List Fr} {CL : List Int}
theorem mo_isOf {d : Nat} {μ : m_M} (hq : q < 4) (h30 : μ 34 0 30 = (q : Int)) {n : Int} (hn : 1 ≤ n ∧ n ≤ 10) (h2 : 3 ≤ n) {K : Int → m_M → Prop} (k : K (if p_fw q (tkL.getD n.toNat 0) = true then 1 else 0) μ) : c_i G (d + 1) YX12_isOf [vR 34 0, vI n] μ K := by
  refine EX12_isOf ?_
  rw [h30]
  have hn' : n = 3 ∨ n = 4 ∨ n = 5 ∨ n = 6 ∨ n = 7 ∨ n = 8 ∨ n = 9 ∨ n = 10 := by omega
  have hq' : q = 0 ∨ q = 1 ∨ q = 2 ∨ q = 3 := by omega
  rcases hn' with e | e | e | e | e | e | e | e <;> subst e <;> rcases hq' with e | e | e | e <;> subst e <;> simp [p_fw, tkL] at k ⊢ <;> exact k
theorem mo_operand {d : Nat} {kd ph bg : Int} {pr : Option Int} {ops : List Int} {μ : m_M} (h : Mm T L b (q : Int) μ0 c e o opd (((kd, ph, bg, pr), ops) :: fs) CL μ) (hq : q < 4) (hc : c ≤ e) (ho : o ≤ 7) (hn : fs.length ≤ 15) (hm : (opA (((kd, ph, bg, pr), ops) :: fs)).length ≤ 300) {K : Int → m_M → Prop}
    (kL : tLf T L e ≠ -1 → ∀ μ1, Mf b μ0 1 (tLf T L e) μ1 → K 1 μ1)
    (kN : tLf T L e = -1 → fstP kd bg → tTk T L e = 278 → (o < 7 → ∀ μ1, Mm T L b (q : Int) μ0 (tEn T L e) (tEn T L e) (o + 1) opd (((kd, ph, bg, pr), 43 :: ops) :: fs) CL μ1 → K 0 μ1) ∧ (o = 7 → ∀ μ1, Mf b μ0 5 (tAt T L e : Int) μ1 → K 1 μ1))
    (kB : tLf T L e = -1 → fstP kd bg → tTk T L e = 91 → (o < 7 → ∀ μ1, Mm T L b (q : Int) μ0 (tEn T L e) (tEn T L e) (o + 1) opd (((5, 0, 1, none), []) :: ((kd, ph, 0, pr), ops) :: fs) CL μ1 → K 0 μ1) ∧ (o = 7 → ∀ μ1, Mf b μ0 5 (tAt T L e : Int) μ1 → K 0 μ1))
    (kA : tLf T L e = -1 → fstP kd bg → tTk T L e = 279 → ∀ μ1, Mm T L b (q : Int) μ0 (tEn T L e) (tEn T L e) o opd (((kd, 2, 0, pr), ops) :: fs) (CL ++ [279]) μ1 → K 1 μ1)
    (kP : tLf T L e = -1 → tTk T L e = 40 → (o < 7 → ∀ μ1, Mm T L b (q : Int) μ0 (tEn T L e) (tEn T L e) (o + 1) opd (((2, 0, 1, none), []) :: ((kd, ph, 0, pr), ops) :: fs) CL μ1 → K 0 μ1) ∧ (o = 7 → ∀ μ1, Mf b μ0 5 (tAt T L e : Int) μ1 → K 0 μ1))
    (kC : tLf T L e = -1 → tTk T L e = 275 ∨ tTk T L e = 280 ∨ tTk T L e = 281 → (tLf T L (tEn T L e) ≠ -1 → ∀ μ1, Mf b μ0 1 (tLf T L (tEn T L e)) μ1 → K 0 μ1) ∧ (tLf T L (tEn T L e) = -1 → (tTk T L (tEn T L e) ≠ 40 → ∀ μ1, Mf b μ0 1 (tAt T L (tEn T L e) : Int) μ1 → K 0 μ1) ∧ (tTk T L (tEn T L e) = 40 → (o < 7 → ∀ μ1, Mm T L b (q : Int) μ0 (tEn T L (tEn T L e)) (tEn T L (tEn T L e)) (o + 1) opd ((((if tTk T L e = 275 then 6 else 3), 0, 1, some (prOf (tTk T L e))), []) :: ((kd, ph, 0, pr), ops) :: fs) CL μ1 → K 0 μ1) ∧ (o = 7 → ∀ μ1, Mf b μ0 5 (tAt T L (tEn T L e) : Int) μ1 → K 0 μ1))))
    (kT : tLf T L e = -1 → tTk T L e = 283 ∨ (256 ≤ tTk T L e ∧ p_fw q (tTk T L e) = true) → ∀ μ1, Mm T L b (q : Int) μ0 (tEn T L e) (tEn T L e) o opd (((kd, ph, 0, pr), ops) :: fs) (CL ++ [if tTk T L e = 283 then 1000 + tVal T L e else tTk T L e]) μ1 → K 1 μ1)
    (kX : tLf T L e = -1 → (¬ tTk T L e = 40 ∧ ¬ tTk T L e = 275 ∧ ¬ tTk T L e = 280 ∧ ¬ tTk T L e = 281 ∧ ¬ tTk T L e = 283) → ¬ p_fw q (tTk T L e) = true → (fstP kd bg → ¬ tTk T L e = 278 ∧ ¬ tTk T L e = 91 ∧ ¬ tTk T L e = 279) → ∀ μ1, Mf b μ0 1 (tAt T L e : Int) μ1 → K 1 μ1) : c_i G (d + 4) YX12_operand [vR 34 0] μ K := by
  have hbd := h.2.2.2.2.2.2
  have hL16 := h.1.2.1.2.2
  have h36 := h.2.2.1.1
  have he := h.1.2.2.2
  have g1 := tAt_in (T := T) he
  have g2 := tEn_in (T := T) he
  have nend : ¬ tTk T L e = 284 → tAt T L e < L ∧ e < tEn T L e ∧ tEn T L e ≤ L ∧ e < 1600 := fun z => by
    have : tAt T L e < L := by
      by_cases y : L ≤ tAt T L e
      · exact absurd (tk_end y) z
      · omega
    have := g2.2.2 this
    omega
  simp only [List.length_cons] at h36
  refine EX12_operand (fun X C R => mo_lex h (fun hf => ?_) (fun hf μ1 f1 => ⟨fun z => absurd z (by rw [f1.2.1]; decide), fun _ => kL hf μ1 f1⟩))
  refine ⟨fun _ x2 e2 => ?_, fun z => absurd (by rw [h.2.1.1]; decide) z⟩
  have w1 : w32 (((fs.length + 1 : Nat) : Int) - 1) = (fs.length : Int) := by rw [w32_le (by omega) (by omega)]; omega
  rw [h36, w1] at e2
  subst e2
  -- an atom, or no such word
  have at487 : ∀ (μ1 : m_M) (j : Int), Mm T L b (q : Int) μ0 c e o opd (((kd, ph, 0, pr), ops) :: fs) CL μ1 → ∀ l2 : Int, (¬ j = -1 → (tTk T L e = 283 ∨ (256 ≤ tTk T L e ∧ p_fw q (tTk T L e) = true)) ∧ (j = 0 → 0 ≤ μ1 34 0 6) ∧ tk j (μ1 34 0 6) = (if tTk T L e = 283 then 1000 + tVal T L e else tTk T L e)) → (j = -1 → (¬ tTk T L e = 40 ∧ ¬ tTk T L e = 275 ∧ ¬ tTk T L e = 280 ∧ ¬ tTk T L e = 281 ∧ ¬ tTk T L e = 283) ∧ ¬ p_fw q (tTk T L e) = true ∧ (fstP kd bg → ¬ tTk T L e = 278 ∧ ¬ tTk T L e = 91 ∧ ¬ tTk T L e = 279)) → mW G X YX12_operand μ1 487 [some (vR 34 0), some (vI (fs.length : Int)), some (vI l2), some (vI j)] [] := fun μ1 j h1 l2 a1 a2 => by
    refine VX12_operand_487 C R ⟨fun hj => ⟨fun _ => ?_, fun z => absurd (by rw [h1.2.1.1]; decide) z⟩, fun hj => ?_⟩
    · obtain ⟨b1, b2, b3⟩ := a1 hj
      have ne := nend (by
        intro z
        rcases b1 with y | y
        · omega
        · rw [z] at y; exact absurd y.2 (by simp [p_fw]))
      refine mo_add h1 (by omega) b2 (fun μ2 _ h2 => ?_)
      rw [b3] at h2
      exact mo_aheadM (h2.up (c' := tEn T L e) (by omega) (by omega)) (fun μ3 h3 => kT hf b1 μ3 h3)
    · obtain ⟨b1, b2, b3⟩ := a2 hj
      rw [h1.1.2.2.1.1]
      exact mo_blame h1 (fun μ2 f2 => ⟨fun z => absurd z (by rw [f2.2.1]; decide), fun _ => kX hf b1 b2 b3 μ2 f2⟩)
  have at276 : ∀ (t : Int), (t = 275 ∨ t = 280 ∨ t = 281) → tTk T L e = t → tLf T L (tEn T L e) = -1 → ∀ (μ1 : m_M) (l2 : Int), ((tTk T L (tEn T L e) ≠ 40 ∧ Mf b μ0 1 (tAt T L (tEn T L e) : Int) μ1) ∨ (tTk T L (tEn T L e) = 40 ∧ Mm T L b (q : Int) μ0 c (tEn T L e) o opd (((kd, ph, 0, pr), ops) :: fs) CL μ1)) → mW G X YX12_operand μ1 276 [some (vR 34 0), some (vI (fs.length : Int)), some (vI l2), some (vI (prOf t))] [] := fun t ht te hf2 μ1 l2 hh => by
    have kk := (kC hf (by omega)).2 hf2
    have ne := nend (by omega)
    have ge := tEn_in (T := T) g2.2.1
    have ga := tAt_in (T := T) g2.2.1
    refine VX12_operand_276 C R ?_
    have go : ∀ kdd : Int, kdd = (if tTk T L e = 275 then 6 else 3) → c_v G (d + 3) YX12_opens [vR 34 0, vI kdd] μ1 (fun μ1 => ((¬ (μ1 34 0 8) = 0) → K 0 μ1) ∧ ((μ1 34 0 8 = 0) → (0 ≤ w32 ((μ1 34 0 36) - 1) ∧ w32 ((μ1 34 0 36) - 1) < 20) ∧ ∀ μ2 : m_M, μ2 = m_up μ1 34 35 (w32 ((μ1 34 0 36) - 1)).toNat (prOf t) → K 0 μ2)) := fun kdd hk => by
      rcases hh with ⟨h40, f1⟩ | ⟨h40, h1⟩
      · exact mo_opensF f1 (by decide) ⟨fun _ => kk.1 h40 μ1 f1, fun z => absurd z (by rw [f1.2.1]; decide)⟩
      · refine mo_opens h1 ho (by show fs.length + 1 ≤ 18; omega) (fun h7 μ2 h2 => ⟨fun z => absurd h2.2.1.1 z, fun _ => ?_⟩) (fun h7 μ2 f2 => ⟨fun _ => (kk.2 h40).2 h7 μ2 f2, fun z => absurd z (by rw [f2.2.1]; decide)⟩)
        have g36 := h2.2.2.1.1
        simp only [List.length_cons] at g36
        have w3 : w32 (((fs.length + 1 + 1 : Nat) : Int) - 1) = ((fs.length + 1 : Nat) : Int) := by rw [w32_le (by omega) (by omega)]; omega
        rw [g36, w3, Int.toNat_natCast]
        refine ⟨⟨by omega, by omega⟩, fun μ3 e3 => (kk.2 h40).1 h7 μ3 ?_⟩
        have h2 := h2.up (c' := tEn T L (tEn T L e)) (by omega) (by omega)
        have hF := h2.2.2.2.2.1.1
        refine h2.top (μ1 := μ3) (fun x y z a => by rw [e3, m_up_ne _ _ (by simp only [List.length_cons] at a; omega)]) ?_
        simp only [List.length_cons] at hF ⊢
        rw [← hk, te]
        refine ⟨?_, ?_, ?_, fun p hp => ?_⟩
        · rw [e3, m_up_ne _ _ (by omega)]; exact hF.1
        · rw [e3, m_up_ne _ _ (by omega)]; exact hF.2.1
        · rw [e3, m_up_ne _ _ (by omega)]; exact hF.2.2.1
        · rw [e3, m_up_at]; exact Option.some.inj hp
    refine ⟨fun z => go 3 ?_, fun z => go 6 ?_⟩
    · rw [te, if_neg]
      intro y; rw [y] at z; exact z rfl
    · rw [te, if_pos]
      rcases ht with y | y | y
      · exact y
      · rw [y] at z; exact absurd z (by decide)
      · rw [y] at z; exact absurd z (by decide)
  have at217 : ∀ (μ1 : m_M) (l2 : Int), Mm T L b (q : Int) μ0 c e o opd (((kd, ph, 0, pr), ops) :: fs) CL μ1 → tTk T L e = 275 ∨ tTk T L e = 280 ∨ tTk T L e = 281 → mW G X YX12_operand μ1 217 [some (vR 34 0), some (vI (fs.length : Int)), some (vI l2), none] [] := fun μ1 l2 h1 ht => by
    have hB := h1.1.2.1
    have hM := h1.1.2.2.1
    have go : ∀ t : Int, tTk T L e = t → c_v G (d + 3) YX12_ahead [vR 34 0] μ1 (fun μ18 => c_v G (d + 3) YX12_lex [vR 34 0] μ18 (fun μ19 => c_i G (d + 3) YX12_isSign [vR 34 0, vI 40] μ19 (fun r21 μ20 => ((¬ r21 = 0) → mW G X YX12_operand μ20 276 [some (vR 34 0), some (vI (fs.length : Int)), some (vI l2), some (vI (prOf t))] []) ∧ ((r21 = 0) → c_v G (d + 3) YX12_blame [vR 34 0, vI 1, vI (μ20 34 0 4)] μ20 (fun μ22 => mW G X YX12_operand μ22 276 [some (vR 34 0), some (vI (fs.length : Int)), some (vI l2), some (vI (prOf t))] []))))) := fun t te => by
      refine mo_aheadM h1 (fun μ2 h2 => mo_lex h2 (fun hf2 => ?_) (fun hf2 μ3 f3 => ?_))
      · have at2 := at276 t (by omega) te hf2
        refine mo_sg h2.1.2.1 h2.1.2.2.2 h2.1.2.2.1 (by decide) (ite1 (fun y => at2 μ2 l2 (Or.inr ⟨y, h2⟩)) (fun y => ?_))
        rw [h2.1.2.2.1.1]
        exact mo_blame h2 (fun μ3 f3 => at2 μ3 l2 (Or.inl ⟨y, f3⟩))
      · have fin : mW G X YX12_operand μ3 276 [some (vR 34 0), some (vI (fs.length : Int)), some (vI l2), some (vI (prOf t))] [] := by
          have kk : K 0 μ3 := (kC hf (by omega)).1 hf2 μ3 f3
          exact VX12_operand_276 C R ⟨fun _ => mo_opensF f3 (by decide) ⟨fun _ => kk, fun z => absurd z (by rw [f3.2.1]; decide)⟩, fun _ => mo_opensF f3 (by decide) ⟨fun _ => kk, fun z => absurd z (by rw [f3.2.1]; decide)⟩⟩
        exact mo_sgF ⟨z0, fun _ => mo_blame2 f3 (by decide) fin⟩ ⟨fun _ => fin, z1⟩
    refine VX12_operand_217 C R (mo_wd hB he hM hf 24 (by decide) rfl (ite0 (fun y1 => mo_wd hB he hM hf 25 (by decide) rfl (ite0 (fun y2 => ?_) (fun y2 => ?_))) (fun y1 => ?_)))
    · exact go 275 (by omega)
    · exact go 281 (by omega)
    · exact go 280 (by omega)
  have at171 : ∀ (μ1 : m_M) (l2 : Int), Mm T L b (q : Int) μ0 c e o opd (((kd, ph, 0, pr), ops) :: fs) CL μ1 → (fstP kd bg → ¬ tTk T L e = 278 ∧ ¬ tTk T L e = 91 ∧ ¬ tTk T L e = 279) → mW G X YX12_operand μ1 171 [some (vR 34 0), some (vI (fs.length : Int)), some (vI l2), none] [] := fun μ1 l2 h1 hx => by
    have hB := h1.1.2.1
    have hM := h1.1.2.2.1
    have h30 := h1.2.1.2.2.2.1
    have wd6 : 256 ≤ tTk T L e → tTk T L e ≤ 282 → μ1 34 0 6 = 0 := fun a1 a2 => by
      rcases mk_cases hB he hM with ⟨_, h3, ht⟩ | ⟨_, _, h3, ht, hw⟩ | ⟨_, h3, ht, _⟩ | ⟨_, h3, h6, ht⟩
      · omega
      · exact (hw hf).2.1
      · omega
      · omega
    have word : ∀ j : Int, 1 ≤ j → j ≤ 10 → tTk T L e = tkL.getD j.toNat 0 → (256 ≤ tTk T L e ∧ tTk T L e ≤ 282) → p_fw q (tTk T L e) = true → mW G X YX12_operand μ1 487 [some (vR 34 0), some (vI (fs.length : Int)), some (vI l2), some (vI j)] [] := fun j j1 j2 te tb hw => by
      refine at487 μ1 j h1 l2 (fun _ => ⟨Or.inr ⟨tb.1, hw⟩, fun z => by omega, ?_⟩) (fun z => by omega)
      rw [wd6 tb.1 tb.2, if_neg (by omega)]
      unfold tk
      rw [if_neg (by omega), te]
    have bad : (¬ tTk T L e = 40 ∧ ¬ tTk T L e = 275 ∧ ¬ tTk T L e = 280 ∧ ¬ tTk T L e = 281 ∧ ¬ tTk T L e = 283) → ¬ p_fw q (tTk T L e) = true → mW G X YX12_operand μ1 487 [some (vR 34 0), some (vI (fs.length : Int)), some (vI l2), some (vI (-1))] [] := fun a1 a2 => at487 μ1 (-1) h1 l2 (fun z => absurd rfl z) (fun _ => ⟨a1, a2, hx⟩)
    have of : ∀ j : Int, 3 ≤ j → j ≤ 10 → tTk T L e = tkL.getD j.toNat 0 → (256 ≤ tTk T L e ∧ tTk T L e ≤ 274) → c_i G (d + 3) YX12_isOf [vR 34 0, vI j] μ1 (fun r32 μ31 => ((¬ r32 = 0) → mW G X YX12_operand μ31 487 [some (vR 34 0), some (vI (fs.length : Int)), some (vI l2), some (vI j)] []) ∧ ((r32 = 0) → mW G X YX12_operand μ31 487 [some (vR 34 0), some (vI (fs.length : Int)), some (vI l2), some (vI (-1))] [])) := fun j j1 j2 te tb => by
      refine mo_isOf hq h30 ⟨by omega, j2⟩ j1 ?_
      rw [← te]
      exact ite1 (fun y => word j (by omega) j2 te ⟨tb.1, by omega⟩ y) (fun y => bad (by omega) y)
    refine VX12_operand_171 C R (mo_sg hB he hM (by decide) (ite0 (fun y1 => mo_wd hB he hM hf 24 (by decide) rfl (ite1 (fun y => at217 μ1 l2 h1 (by omega)) (fun y2 => mo_wd hB he hM hf 25 (by decide) rfl (ite1 (fun y => at217 μ1 l2 h1 (by omega)) (fun y3 => mo_wd hB he hM hf 19 (by decide) rfl (ite0 (fun y4 => ⟨fun hnn => ?_, fun hnn => ?_⟩) (fun y => at217 μ1 l2 h1 (by omega)))))))) (fun y => mo_opens (h1.up (c' := e) hc (by omega)) ho (by show fs.length + 1 ≤ 18; omega) (fun h7 μ2 h2 => (kP hf y).1 h7 μ2 (h2.up (by omega) (by omega))) (fun h7 μ2 f2 => (kP hf y).2 h7 μ2 f2))))
    · refine mo_wd hB he hM hf 12 (by decide) rfl (ite0 (fun u1 => mo_wd hB he hM hf 13 (by decide) rfl (ite0 (fun u2 => mo_wd hB he hM hf 1 (by decide) rfl (ite0 (fun u3 => mo_wd hB he hM hf 2 (by decide) rfl (ite0 (fun u4 => mo_wd hB he hM hf 14 (by decide) rfl (ite0 (fun u5 => mo_wd hB he hM hf 15 (by decide) rfl (ite0 (fun u6 => mo_wd hB he hM hf 16 (by decide) rfl (ite0 (fun u7 => mo_wd hB he hM hf 17 (by decide) rfl (ite0 (fun u8 => mo_wd hB he hM hf 4 (by decide) rfl (ite0 (fun u9 => mo_wd hB he hM hf 18 (by decide) rfl (ite0 (fun u10 => ?_) (fun u => of 10 (by decide) (by decide) (by rw [u]; rfl) (by omega)))) (fun u => of 9 (by decide) (by decide) (by rw [u]; rfl) (by omega)))) (fun u => of 8 (by decide) (by decide) (by rw [u]; rfl) (by omega)))) (fun u => of 7 (by decide) (by decide) (by rw [u]; rfl) (by omega)))) (fun u => of 6 (by decide) (by decide) (by rw [u]; rfl) (by omega)))) (fun u => of 5 (by decide) (by decide) (by rw [u]; rfl) (by omega)))) (fun u => of 4 (by decide) (by decide) (by rw [u]; rfl) (by omega)))) (fun u => of 3 (by decide) (by decide) (by rw [u]; rfl) (by omega)))) (fun u => word 2 (by decide) (by decide) (by rw [u]; rfl) (by omega) (by rw [u]; rfl)))) (fun u => word 1 (by decide) (by decide) (by rw [u]; rfl) (by omega) (by rw [u]; rfl)))
      have n283 : ¬ tTk T L e = 283 := fun z => by
        rcases mk_cases hB he hM with ⟨_, h3, ht⟩ | ⟨_, _, h3, ht, hw⟩ | ⟨_, h3, ht, _⟩ | ⟨_, h3, h6, ht⟩
        · omega
        · omega
        · exact hnn h3
        · omega
      refine bad ⟨y1, by omega, by omega, by omega, n283⟩ (fun z => ?_)
      simp only [p_fw, Bool.or_eq_true, Bool.and_eq_true, beq_iff_eq, decide_eq_true_eq] at z
      omega
    · have t283 : tTk T L e = 283 ∧ μ1 34 0 6 = tVal T L e ∧ 0 ≤ tVal T L e := by
        rcases mk_cases hB he hM with ⟨_, h3, ht⟩ | ⟨_, _, h3, ht, hw⟩ | ⟨_, h3, ht, hw⟩ | ⟨_, h3, h6, ht⟩
        · omega
        · omega
        · exact ⟨ht, (hw hf).1, (hw hf).2.1⟩
        · omega
      refine at487 μ1 0 h1 l2 (fun _ => ⟨Or.inl t283.1, fun _ => by rw [t283.2.1]; exact t283.2.2, ?_⟩) (fun z => absurd z (by decide))
      rw [if_pos t283.1, t283.2.1]
      rfl
  have at110 : ∀ l2 : Int, (l2 = 0 → ¬ fstP kd bg) → (¬ l2 = 0 → fstP kd bg ∧ ¬ tTk T L e = 278) → mW G X YX12_operand μ 110 [some (vR 34 0), some (vI (fs.length : Int)), some (vI l2), none] [] := fun l2 a0 a1 => by
    refine VX12_operand_110 C R ⟨⟨by omega, by omega⟩, fun μ1 e1 => ?_⟩
    rw [Int.toNat_natCast] at e1
    have hF := h.2.2.2.2.1.1
    have h1 : Mm T L b (q : Int) μ0 c e o opd (((kd, ph, 0, pr), ops) :: fs) CL μ1 := by
      refine h.top (fun x y z a => by rw [e1, m_up_ne _ _ (by omega)]) ⟨?_, ?_, ?_, fun p hp => ?_⟩
      · rw [e1, m_up_ne _ _ (by omega)]; exact hF.1
      · rw [e1, m_up_ne _ _ (by omega)]; exact hF.2.1
      · rw [e1, m_up_at]
      · rw [e1, m_up_ne _ _ (by omega)]; exact hF.2.2.2.1 p hp
    have hB := h1.1.2.1
    have hM := h1.1.2.2.1
    refine ⟨fun y => VX12_operand_137 C R ⟨fun _ => at171 μ1 l2 h1 (fun z => absurd z (a0 y)), fun z => absurd y z⟩, fun y => mo_sg hB he hM (by decide) (ite0 (fun u1 => ?_) (fun u1 => ?_))⟩
    · refine VX12_operand_137 C R ⟨fun z => absurd z y, fun _ => mo_wd hB he hM hf 23 (by decide) rfl (ite0 (fun u2 => at171 μ1 l2 h1 (fun _ => ⟨(a1 y).2, u1, by omega⟩)) (fun u2 => ?_))⟩
      have ne := nend (by omega)
      refine mo_add h1 (by omega) (fun z => by omega) (fun μ2 _ h2 => ⟨⟨by omega, by omega⟩, fun μ3 e3 => ?_⟩)
      rw [Int.toNat_natCast] at e3
      have hF2 := h2.2.2.2.2.1.1
      have h3 : Mm T L b (q : Int) μ0 (c + 1) e o opd (((kd, 2, 0, pr), ops) :: fs) (CL ++ [tk 30 0]) μ3 := by
        refine h2.top (fun x y z a => by rw [e3, m_up_ne _ _ (by omega)]) ⟨?_, ?_, ?_, fun p hp => ?_⟩
        · rw [e3, m_up_ne _ _ (by omega)]; exact hF2.1
        · rw [e3, m_up_at]
        · rw [e3, m_up_ne _ _ (by omega)]; exact hF2.2.2.1
        · rw [e3, m_up_ne _ _ (by omega)]; exact hF2.2.2.2.1 p hp
      exact mo_aheadM (h3.up (c' := tEn T L e) (by omega) (by omega)) (fun μ4 h4 => kA hf (a1 y).1 (by omega) μ4 h4)
    · have kk := kB hf (a1 y).1 u1
      exact mo_opens (h1.up (c' := e) hc (by omega)) ho (by show fs.length + 1 ≤ 18; omega) (fun h7 μ2 h2 => kk.1 h7 μ2 (h2.up (by omega) (by omega))) (fun h7 μ2 f2 => kk.2 h7 μ2 f2)
  have hF := h.2.2.2.2.1.1
  have hB := h.1.2.1
  have hM := h.1.2.2.1
  rw [Int.toNat_natCast, show μ 34 32 fs.length = kd from hF.1]
  refine ⟨⟨by omega, by omega⟩, mo_isTest (ite0 (fun y => VX12_operand_45 C R (at110 0 (fun _ z => y z.1) (fun z => absurd rfl z))) (fun y => ⟨⟨by omega, by omega⟩, ?_⟩))⟩
  rw [show μ 34 34 fs.length = bg from hF.2.2.1]
  refine ⟨fun y2 => VX12_operand_45 C R (at110 0 (fun _ z => z.2 y2) (fun z => absurd rfl z)), fun y2 => mo_wd hB he hM hf 22 (by decide) rfl (ite0 (fun u => at110 1 (fun z => absurd z (by decide)) (fun _ => ⟨⟨y, y2⟩, by omega⟩)) (fun u => ?_))⟩
  have kk := kN hf ⟨y, y2⟩ (by omega)
  have ne := nend (by omega)
  rw [h.2.2.1.2.1, h.1.2.2.1.1]
  refine ⟨fun h7 => VX12_operand_79 C R ⟨fun _ μ1 e1 => ?_, fun z => absurd (by rw [h.2.1.1]; decide) z⟩, fun h7 => mo_blame h (fun μ1 f1 => VX12_operand_79 C R ⟨fun z => absurd z (by rw [f1.2.1]; decide), fun _ => kk.2 (by omega) μ1 f1⟩)⟩
  rw [h.2.2.1.2.1, w32_s (by omega)] at e1
  rw [e1]
  exact mo_hold (h.opn (by omega)) (by omega) hm (fun μ2 h2 => mo_aheadM (h2.up (c' := tEn T L e) (by omega) (by omega)) (fun μ3 h3 => kk.1 (by omega) μ3 h3))
end MO3
