/-! ===== the reference's formula reader: its state, and what its small methods do ===== -/
section MQ
variable {G : m_G} {T : Nat → Int} {L e : Nat}
theorem mk_cases {μ : m_M} (hB : MBs T L μ) (he : e ≤ L) (hM : MK T L μ e) : (L ≤ tAt T L e ∧ μ 34 0 3 = 0 ∧ tTk T L e = 284) ∨ (tAt T L e < L ∧ isLt (T (tAt T L e)) = true ∧ μ 34 0 3 = 1 ∧ (256 ≤ tTk T L e ∧ tTk T L e ≤ 282) ∧ (tLf T L e = -1 → μ 34 0 7 = (nm256 (tNm T L e) 0 : Int) ∧ μ 34 0 6 = 0 ∧ isNm (tNm T L e) ∧ tTk T L e = tokV (nm27 (tNm T L e) 5))) ∨ (tAt T L e < L ∧ μ 34 0 3 = 2 ∧ tTk T L e = 283 ∧ (tLf T L e = -1 → μ 34 0 6 = tVal T L e ∧ 0 ≤ tVal T L e ∧ tVal T L e ≤ 9999)) ∨ (tAt T L e < L ∧ μ 34 0 3 = 3 ∧ μ 34 0 6 = tTk T L e ∧ 0 ≤ tTk T L e ∧ tTk T L e ≤ 255) := by
  obtain ⟨h4, h5, h12, hE, hW, hN, hS⟩ := hM
  by_cases h : L ≤ tAt T L e
  · exact Or.inl ⟨h, hE h, tk_end h⟩
  have hL : tAt T L e < L := by omega
  by_cases hl : isLt (T (tAt T L e)) = true
  · have w := hW hL hl
    have t := tk_wd hL hl
    have i := tokV_in (nm27 (tNm T L e) 5)
    exact Or.inr (Or.inl ⟨hL, hl, w.1, by rw [t]; exact i, fun f => ⟨(w.2 f).1, (w.2 f).2, (tNm_ok he hL hl f).1, t⟩⟩)
  · by_cases hd : isDg (T (tAt T L e)) = true
    · have w := hN hL hd
      refine Or.inr (Or.inr (Or.inl ⟨hL, w.1, tk_nu hL (bool_f hl) hd, fun f => ⟨w.2 f, ?_⟩⟩))
      have tl := tLf_nu hL (bool_f hl) hd
      rw [f] at tl
      have h4 : nEn T L (tAt T L e) - tAt T L e ≤ 4 := by
        split at tl
        · omega
        · split at tl
          · omega
          · omega
      have sp := sk1_spec (fun k => isDg (T k)) (L := L) (k := tAt T L e) (by omega)
      have v := nvs_in (T := T) (a := tAt T L e) (nEn T L (tAt T L e) - tAt T L e) h4 (fun j h1 h2 => sp.2.2.1 j h1 (by have : nEn T L (tAt T L e) = sk1 (fun k => isDg (T k)) L (tAt T L e) := rfl; omega))
      have : ∀ n, n ≤ 4 → (10 : Int) ^ n ≤ 10000 := by decide
      have := this _ h4
      unfold tVal
      omega
    · have w := hS hL (bool_f hl) (bool_f hd)
      have t := tk_sg hL (bool_f hl) (bool_f hd)
      have g := (hB.2.1 _ hL).1
      exact Or.inr (Or.inr (Or.inr ⟨hL, w.1, by rw [t]; exact w.2, by rw [t]; exact g.1, by rw [t]; exact g.2⟩))
theorem mo_sg {d : Nat} {μ : m_M} (hB : MBs T L μ) (he : e ≤ L) (hM : MK T L μ e) {c : Int} (hc : c ≤ 255) {K : Int → m_M → Prop} (k : K (if tTk T L e = c then 1 else 0) μ) : c_i G (d + 1) YX12_isSign [vR 34 0, vI c] μ K := by
  refine EX12_isSign ?_
  rcases mk_cases hB he hM with ⟨_, h3, ht⟩ | ⟨_, _, h3, ht, _⟩ | ⟨_, h3, ht, _⟩ | ⟨_, h3, h6, ht⟩
  · rw [if_neg (by omega)] at k
    exact ⟨fun _ => k, fun q => by omega⟩
  · rw [if_neg (by omega)] at k
    exact ⟨fun _ => k, fun q => by omega⟩
  · rw [if_neg (by omega)] at k
    exact ⟨fun _ => k, fun q => by omega⟩
  · rw [h6]
    refine ⟨fun q => absurd h3 q, fun _ => ⟨fun q => ?_, fun q => ?_⟩⟩
    · rw [if_neg q] at k; exact k
    · rw [if_pos q] at k; exact k
theorem mo_wd {d : Nat} {μ : m_M} (hB : MBs T L μ) (he : e ≤ L) (hM : MK T L μ e) (hf : tLf T L e = -1) (k : Nat) (hk : k < 26) {v : Int} (hv : v = own256.getD k 0) {K : Int → m_M → Prop} (kk : K (if tTk T L e = 256 + (k : Int) then 1 else 0) μ) : c_i G (d + 1) YX12_isWord [vR 34 0, vJ v] μ K := by
  subst hv
  refine EX12_isWord ?_
  rcases mk_cases hB he hM with ⟨_, h3, ht⟩ | ⟨_, _, h3, ht, hw⟩ | ⟨_, h3, ht, _⟩ | ⟨_, h3, h6, ht⟩
  · rw [if_neg (by omega)] at kk
    exact ⟨fun _ => kk, fun q => by omega⟩
  · obtain ⟨h7, _, hn, te⟩ := hw hf
    have iff := tok_256 hn hk
    rw [h7]
    refine ⟨fun q => absurd h3 q, fun _ => ⟨fun q => ?_, fun q => ?_⟩⟩
    · rw [if_neg (fun z => q (l_cmp_eq.2 (iff.2 (by rw [← te]; exact z))))] at kk; exact kk
    · rw [if_pos (by rw [te]; exact iff.1 (l_cmp_eq.1 q))] at kk; exact kk
  · rw [if_neg (by omega)] at kk
    exact ⟨fun _ => kk, fun q => by omega⟩
  · rw [if_neg (by omega)] at kk
    exact ⟨fun _ => kk, fun q => by omega⟩
end MQ
abbrev Fr : Type := (Int × Int × Int × Option Int) × List Int
def opA : List Fr → List Int
  | [] => []
  | f :: fs => f.2 ++ opA fs
def FRM (μ : m_M) : List Fr → Prop
  | [] => True
  | f :: fs => (μ 34 32 fs.length = f.1.1 ∧ μ 34 33 fs.length = f.1.2.1 ∧ μ 34 34 fs.length = f.1.2.2.1 ∧ (∀ p, f.1.2.2.2 = some p → μ 34 35 fs.length = p) ∧ μ 34 36 fs.length = ((opA fs).length : Int)) ∧ FRM μ fs
theorem FRM.cg {μ μ1 : m_M} : ∀ fs : List Fr, (∀ y z, 32 ≤ y → y ≤ 36 → z < fs.length → μ1 34 y z = μ 34 y z) → FRM μ fs → FRM μ1 fs := by
  intro fs
  induction fs with
  | nil => intro _ _; trivial
  | cons f fs ih =>
    intro h hf
    have n : ∀ y, 32 ≤ y → y ≤ 36 → μ1 34 y fs.length = μ 34 y fs.length := fun y a b => h y _ a b (by simp)
    refine ⟨⟨?_, ?_, ?_, ?_, ?_⟩, ih (fun y z a b c => h y z a b (by simp; omega)) hf.2⟩
    · rw [n 32 (by decide) (by decide)]; exact hf.1.1
    · rw [n 33 (by decide) (by decide)]; exact hf.1.2.1
    · rw [n 34 (by decide) (by decide)]; exact hf.1.2.2.1
    · rw [n 35 (by decide) (by decide)]; exact hf.1.2.2.2.1
    · rw [n 36 (by decide) (by decide)]; exact hf.1.2.2.2.2
def ofP (b : Nat) (μ μ1 : m_M) : Prop := ∀ x y z, ¬ (x = 34 ∧ ((y = 0 ∧ ((3 ≤ z ∧ z ≤ 9) ∨ z = 12 ∨ z = 28 ∨ z = 36 ∨ z = 37 ∨ z = 39 ∨ z = 40)) ∨ (32 ≤ y ∧ y ≤ 36) ∨ y = 39 ∨ ((y = 25 ∨ y = 26) ∧ 1600 * b ≤ z ∧ z < 1600 * b + 1600))) → μ1 x y z = μ x y z
theorem ofP.rf (b : Nat) (μ : m_M) : ofP b μ μ := fun _ _ _ _ => rfl
theorem ofP.tr {b : Nat} {μ μ1 μ2 : m_M} (h : ofP b μ μ1) (h2 : ofP b μ1 μ2) : ofP b μ μ2 := fun x y z a => (h2 x y z a).trans (h x y z a)
theorem ofP.K {b : Nat} {μ μ1 : m_M} (h : ofK μ μ1) : ofP b μ μ1 := fun x y z a => h x y z (by omega)
def CDS (b : Nat) (μ : m_M) (CL : List Int) : Prop := μ 34 0 28 = (CL.length : Int) ∧ codeL (fun k => tk (μ 34 25 k) (μ 34 26 k)) (1600 * b) CL.length = CL ∧ ∀ k, 1600 * b ≤ k → k < 1600 * b + CL.length → μ 34 25 k = 0 → 0 ≤ μ 34 26 k
def Mm (T : Nat → Int) (L b : Nat) (w : Int) (μ0 : m_M) (c e o : Nat) (opd : Int) (fs : List Fr) (CL : List Int) (μ : m_M) : Prop :=
  (ofP b μ0 μ ∧ MBs T L μ ∧ MK T L μ e ∧ e ≤ L) ∧ (μ 34 0 8 = 0 ∧ μ 34 0 29 = (b : Int) ∧ b ≤ 1 ∧ μ 34 0 30 = w ∧ μ 34 0 9 = -1) ∧ (μ 34 0 36 = (fs.length : Int) ∧ μ 34 0 37 = (o : Int) ∧ μ 34 0 40 = opd ∧ μ 34 0 39 = ((opA fs).length : Int)) ∧ SA (μ 34 39) (opA fs) ∧ FRM μ fs ∧ CDS b μ CL ∧ (CL.length + (opA fs).length ≤ c ∧ c ≤ 1600 ∧ fs.length ≤ 19 ∧ (opA fs).length ≤ 400 ∧ o ≤ 100)
def Mf (b : Nat) (μ0 : m_M) (k p : Int) (μ : m_M) : Prop := ofP b μ0 μ ∧ μ 34 0 8 = k ∧ μ 34 0 9 = p ∧ 0 < k
theorem MK.cg {T : Nat → Int} {L e : Nat} {μ μ1 : m_M} (h : MK T L μ e) (f : ∀ z, 3 ≤ z → z ≤ 12 → z ≠ 8 → z ≠ 9 → μ1 34 0 z = μ 34 0 z) : MK T L μ1 e := by
  unfold MK at h ⊢
  rw [f 3 (by decide) (by decide) (by decide) (by decide), f 4 (by decide) (by decide) (by decide) (by decide), f 5 (by decide) (by decide) (by decide) (by decide), f 6 (by decide) (by decide) (by decide) (by decide), f 7 (by decide) (by decide) (by decide) (by decide), f 12 (by decide) (by decide) (by decide) (by decide)]
  exact h
theorem codeL_app (f : Nat → Int) : ∀ (n a : Nat), codeL f a (n + 1) = codeL f a n ++ [f (a + n)] := by
  intro n
  induction n with
  | zero => intro a; rfl
  | succ n ih =>
    intro a
    show f a :: codeL f (a + 1) (n + 1) = f a :: (codeL f (a + 1) n) ++ [f (a + (n + 1))]
    rw [ih (a + 1), show a + 1 + n = a + (n + 1) by omega]
    rfl
section MO
variable {G : m_G} {T : Nat → Int} {L b c e o : Nat} {w opd : Int} {μ0 : m_M} {fs : List Fr} {CL : List Int}
/-- a step that leaves the lexer, the fault and the word alone -/
theorem Mm.q {μ μ1 : m_M} (h : Mm T L b w μ0 c e o opd fs CL μ) (f : ∀ x y z, ¬ (x = 34 ∧ ((y = 0 ∧ (z = 28 ∨ z = 36 ∨ z = 37 ∨ z = 39 ∨ z = 40)) ∨ (32 ≤ y ∧ y ≤ 36) ∨ y = 39 ∨ ((y = 25 ∨ y = 26) ∧ 1600 * b ≤ z ∧ z < 1600 * b + 1600))) → μ1 x y z = μ x y z) : (ofP b μ0 μ1 ∧ MBs T L μ1 ∧ MK T L μ1 e ∧ e ≤ L) ∧ (μ1 34 0 8 = 0 ∧ μ1 34 0 29 = (b : Int) ∧ b ≤ 1 ∧ μ1 34 0 30 = w ∧ μ1 34 0 9 = -1) := by
  obtain ⟨⟨hp, hB, hM, he⟩, ⟨h8, h29, hb, h30⟩, _⟩ := h
  refine ⟨⟨hp.tr (fun x y z a => f x y z (by omega)), ⟨by rw [f 34 0 2 (by omega)]; exact hB.1, fun i hi => by rw [f 34 1 i (by omega)]; exact hB.2.1 i hi, hB.2.2⟩, hM.cg (fun z a b c d => f 34 0 z (by omega)), he⟩, ?_⟩
  rw [f 34 0 8 (by omega), f 34 0 29 (by omega), f 34 0 30 (by omega), f 34 0 9 (by omega)]
  exact ⟨h8, h29, hb, h30⟩
theorem Mm.up {c' : Nat} {μ : m_M} (h : Mm T L b w μ0 c e o opd fs CL μ) (h1 : c ≤ c') (h2 : c' ≤ 1600) : Mm T L b w μ0 c' e o opd fs CL μ := ⟨h.1, h.2.1, h.2.2.1, h.2.2.2.1, h.2.2.2.2.1, h.2.2.2.2.2.1, by have := h.2.2.2.2.2.2; omega⟩
theorem mo_aheadM {d : Nat} {μ : m_M} (h : Mm T L b w μ0 c e o opd fs CL μ) {K : m_M → Prop} (k : ∀ μ1, Mm T L b w μ0 c (tEn T L e) o opd fs CL μ1 → K μ1) : c_v G (d + 2) YX12_ahead [vR 34 0] μ K := by
  obtain ⟨⟨hp, hB, hM, he⟩, ⟨h8, h29, hb, h30⟩, ⟨h36, h37, h40, h39⟩, hS, hF, ⟨h28, hC, hV⟩, hbd⟩ := h
  refine mo_ahead hB (tEn_in he).2.1 hM.2.1 (fun μ1 f hM1 => k μ1 ?_)
  refine ⟨⟨hp.tr (ofP.K f), hB.of f, hM1, (tEn_in he).2.1⟩, ?_, ?_, ?_, ?_, ⟨?_, ?_, ?_⟩, hbd⟩
  · rw [f 34 0 8 (by omega), f 34 0 29 (by omega), f 34 0 30 (by omega), f 34 0 9 (by omega)]; exact ⟨h8, h29, hb, h30⟩
  · rw [f 34 0 36 (by omega), f 34 0 37 (by omega), f 34 0 40 (by omega), f 34 0 39 (by omega)]; exact ⟨h36, h37, h40, h39⟩
  · exact SA_up _ (fun i _ => f 34 39 i (by omega)) hS
  · exact FRM.cg _ (fun y z a _ _ => f 34 y z (by omega)) hF
  · rw [f 34 0 28 (by omega)]; exact h28
  · rw [codeL_congr (g := fun k => tk (μ 34 25 k) (μ 34 26 k)) _ _ (fun i _ _ => by rw [f 34 25 i (by omega), f 34 26 i (by omega)])]; exact hC
  · intro i a1 a2
    rw [f 34 25 i (by omega), f 34 26 i (by omega)]; exact hV i a1 a2
theorem mo_add {d : Nat} {μ : m_M} (h : Mm T L b w μ0 c e o opd fs CL μ) (hc : c < 1600) {s v : Int} (hv : s = 0 → 0 ≤ v) {K : m_M → Prop} (k : ∀ μ1, (∀ y z, 32 ≤ y → μ1 34 y z = μ 34 y z) → Mm T L b w μ0 (c + 1) e o opd fs (CL ++ [tk s v]) μ1 → K μ1) : c_v G (d + 1) YX12_add [vR 34 0, vI s, vI v] μ K := by
  have hq := fun μ1 => Mm.q (μ1 := μ1) h
  obtain ⟨⟨hp, hB, hM, he⟩, ⟨h8, h29, hb, h30⟩, ⟨h36, h37, h40, h39⟩, hS, hF, ⟨h28, hC, hV⟩, hbd⟩ := h
  have ix : w32 (w32 (1600 * (b : Int)) + (CL.length : Int)) = ((1600 * b + CL.length : Nat) : Int) := by
    rw [w32_le (z := 1600 * (b : Int)) (by omega) (by omega), w32_le (by omega) (by omega)]; omega
  refine EX12_add ?_
  rw [h29, h28, ix]
  refine ⟨⟨by omega, by omega⟩, fun μ1 e1 => ?_⟩
  rw [Int.toNat_natCast] at e1
  have f1 : ∀ x y z, ¬ (x = 34 ∧ y = 25 ∧ z = 1600 * b + CL.length) → μ1 x y z = μ x y z := fun x y z q => by rw [e1, m_up_ne _ _ (by omega)]
  rw [f1 34 0 29 (by omega), f1 34 0 28 (by omega), h29, h28, ix]
  refine ⟨⟨by omega, by omega⟩, fun μ2 e2 μ3 e3 => ?_⟩
  rw [Int.toNat_natCast] at e2
  have n2 : μ2 34 0 28 = (CL.length : Int) := by rw [e2, m_up_ne _ _ (by omega), f1 34 0 28 (by omega)]; exact h28
  rw [n2, w32_s (by omega)] at e3
  have f3 : ∀ x y z, ¬ (x = 34 ∧ ((y = 0 ∧ z = 28) ∨ ((y = 25 ∨ y = 26) ∧ z = 1600 * b + CL.length))) → μ3 x y z = μ x y z := fun x y z q => by rw [e3, m_up_ne _ _ (by omega), e2, m_up_ne _ _ (by omega), f1 x y z (by omega)]
  refine k μ3 (fun y z hy => f3 34 y z (by omega)) ?_
  have v25 : μ3 34 25 (1600 * b + CL.length) = s := by rw [e3, m_up_ne _ _ (by omega), e2, m_up_ne _ _ (by omega), e1, m_up_at]
  have v26 : μ3 34 26 (1600 * b + CL.length) = v := by rw [e3, m_up_ne _ _ (by omega), e2, m_up_at]
  have q3 := hq μ3 (fun x y z a => f3 x y z (by omega))
  refine ⟨q3.1, q3.2, ?_, ?_, ?_, ⟨?_, ?_, ?_⟩, ?_⟩
  · rw [f3 34 0 36 (by omega), f3 34 0 37 (by omega), f3 34 0 40 (by omega), f3 34 0 39 (by omega)]; exact ⟨h36, h37, h40, h39⟩
  · exact SA_up _ (fun i _ => f3 34 39 i (by omega)) hS
  · exact FRM.cg _ (fun y z a _ _ => f3 34 y z (by omega)) hF
  · rw [e3, m_up_at]; simp
  · rw [List.length_append, List.length_singleton, codeL_app, v25, v26, codeL_congr (g := fun k => tk (μ 34 25 k) (μ 34 26 k)) _ _ (fun i _ _ => by rw [f3 34 25 i (by omega), f3 34 26 i (by omega)]), hC]
  · intro i a1 a2
    rw [List.length_append, List.length_singleton] at a2
    by_cases y : i = 1600 * b + CL.length
    · rw [y, v25, v26]; exact hv
    · rw [f3 34 25 i (by omega), f3 34 26 i (by omega)]; exact hV i a1 (by omega)
  · rw [List.length_append, List.length_singleton]; omega
theorem mo_hold {d : Nat} {μ : m_M} {k0 : Int × Int × Int × Option Int} {ops : List Int} (h : Mm T L b w μ0 c e o opd ((k0, ops) :: fs) CL μ) (hc : c < 1600) (hn : (opA ((k0, ops) :: fs)).length ≤ 300) {x : Int} {K : m_M → Prop} (k : ∀ μ1, Mm T L b w μ0 (c + 1) e o opd ((k0, x :: ops) :: fs) CL μ1 → K μ1) : c_v G (d + 1) YX12_holdsBack [vR 34 0, vI x] μ K := by
  have hq := fun μ1 => Mm.q (μ1 := μ1) h
  obtain ⟨⟨hp, hB, hM, he⟩, ⟨h8, h29, hb, h30⟩, ⟨h36, h37, h40, h39⟩, hS, hF, ⟨h28, hC, hV⟩, hbd⟩ := h
  refine EX12_holdsBack ?_
  rw [h39, Int.toNat_natCast]
  refine ⟨⟨by omega, by omega⟩, fun μ1 e1 μ2 e2 => k μ2 ?_⟩
  have n1 : μ1 34 0 39 = ((opA ((k0, ops) :: fs)).length : Int) := by rw [e1, m_up_ne _ _ (by omega)]; exact h39
  rw [n1, w32_s (by omega)] at e2
  have f2 : ∀ x y z, ¬ (x = 34 ∧ ((y = 0 ∧ z = 39) ∨ (y = 39 ∧ z = (opA ((k0, ops) :: fs)).length))) → μ2 x y z = μ x y z := fun x y z q => by rw [e2, m_up_ne _ _ (by omega), e1, m_up_ne _ _ (by omega)]
  have q2 := hq μ2 (fun x y z a => f2 x y z (by omega))
  have oe : opA ((k0, x :: ops) :: fs) = x :: opA ((k0, ops) :: fs) := rfl
  have ol : (opA ((k0, x :: ops) :: fs)).length = (opA ((k0, ops) :: fs)).length + 1 := by rw [oe]; rfl
  refine ⟨q2.1, q2.2, ?_, ?_, ?_, ⟨?_, ?_, ?_⟩, ?_⟩
  · rw [f2 34 0 36 (by omega), f2 34 0 37 (by omega), f2 34 0 40 (by omega), ol]
    exact ⟨h36, h37, h40, by rw [e2, m_up_at]⟩
  · rw [oe]
    exact ⟨by rw [e2, m_up_ne _ _ (by omega), e1, m_up_at], SA_up _ (fun i hi => f2 34 39 i (by omega)) hS⟩
  · exact FRM.cg ((k0, ops) :: fs) (fun y z a _ _ => f2 34 y z (by omega)) hF
  · rw [f2 34 0 28 (by omega)]; exact h28
  · rw [codeL_congr (g := fun k => tk (μ 34 25 k) (μ 34 26 k)) _ _ (fun i _ _ => by rw [f2 34 25 i (by omega), f2 34 26 i (by omega)])]; exact hC
  · intro i a1 a2
    rw [f2 34 25 i (by omega), f2 34 26 i (by omega)]; exact hV i a1 a2
  · rw [ol]; simp only [List.length_cons] at hbd ⊢; omega
/-- the top frame's kind, phase, begins, pair anew -/
theorem Mm.top {μ μ1 : m_M} {k0 k1 : Int × Int × Int × Option Int} {ops : List Int} (h : Mm T L b w μ0 c e o opd ((k0, ops) :: fs) CL μ) (f : ∀ x y z, ¬ (x = 34 ∧ 32 ≤ y ∧ y ≤ 35 ∧ z = fs.length) → μ1 x y z = μ x y z) (v : μ1 34 32 fs.length = k1.1 ∧ μ1 34 33 fs.length = k1.2.1 ∧ μ1 34 34 fs.length = k1.2.2.1 ∧ (∀ p, k1.2.2.2 = some p → μ1 34 35 fs.length = p)) : Mm T L b w μ0 c e o opd ((k1, ops) :: fs) CL μ1 := by
  have q2 := Mm.q (μ1 := μ1) h (fun x y z a => f x y z (by omega))
  obtain ⟨_, _, ⟨h36, h37, h40, h39⟩, hS, hF, ⟨h28, hC, hV⟩, hbd⟩ := h
  refine ⟨q2.1, q2.2, ?_, ?_, ⟨⟨v.1, v.2.1, v.2.2.1, v.2.2.2, ?_⟩, ?_⟩, ⟨?_, ?_, ?_⟩, hbd⟩
  · rw [f 34 0 36 (by omega), f 34 0 37 (by omega), f 34 0 40 (by omega), f 34 0 39 (by omega)]
    exact ⟨h36, h37, h40, h39⟩
  · exact SA_up _ (fun i hi => f 34 39 i (by omega)) hS
  · rw [f 34 36 _ (by omega)]; exact hF.1.2.2.2.2
  · exact FRM.cg fs (fun y z a _ _ => f 34 y z (by omega)) hF.2
  · rw [f 34 0 28 (by omega)]; exact h28
  · rw [codeL_congr (g := fun k => tk (μ 34 25 k) (μ 34 26 k)) _ _ (fun i _ _ => by rw [f 34 25 i (by omega), f 34 26 i (by omega)])]; exact hC
  · intro i a1 a2
    rw [f 34 25 i (by omega), f 34 26 i (by omega)]; exact hV i a1 a2
theorem Mm.sopd {μ : m_M} (h : Mm T L b w μ0 c e o opd fs CL μ) (v : Int) : Mm T L b w μ0 c e o v fs CL (m_up μ 34 0 40 v) := by
  have f : ∀ x y z, ¬ (x = 34 ∧ y = 0 ∧ z = 40) → m_up μ 34 0 40 v x y z = μ x y z := fun x y z q => m_up_ne _ _ (by omega)
  have q2 := Mm.q (μ1 := m_up μ 34 0 40 v) h (fun x y z a => f x y z (by omega))
  obtain ⟨_, _, ⟨h36, h37, h40, h39⟩, hS, hF, ⟨h28, hC, hV⟩, hbd⟩ := h
  refine ⟨q2.1, q2.2, ?_, ?_, ?_, ⟨?_, ?_, ?_⟩, hbd⟩
  · rw [f 34 0 36 (by omega), f 34 0 37 (by omega), m_up_at, f 34 0 39 (by omega)]
    exact ⟨h36, h37, rfl, h39⟩
  · exact SA_up _ (fun i hi => f 34 39 i (by omega)) hS
  · exact FRM.cg fs (fun y z a _ _ => f 34 y z (by omega)) hF
  · rw [f 34 0 28 (by omega)]; exact h28
  · rw [codeL_congr (g := fun k => tk (μ 34 25 k) (μ 34 26 k)) _ _ (fun i _ _ => by rw [f 34 25 i (by omega), f 34 26 i (by omega)])]; exact hC
  · intro i a1 a2
    rw [f 34 25 i (by omega), f 34 26 i (by omega)]; exact hV i a1 a2
theorem Mm.opn {o' : Nat} {μ : m_M} (h : Mm T L b w μ0 c e o opd fs CL μ) (ho : o' ≤ 100) : Mm T L b w μ0 c e o' opd fs CL (m_up μ 34 0 37 (o' : Int)) := by
  have f : ∀ x y z, ¬ (x = 34 ∧ y = 0 ∧ z = 37) → m_up μ 34 0 37 (o' : Int) x y z = μ x y z := fun x y z q => m_up_ne _ _ (by omega)
  have q2 := Mm.q (μ1 := m_up μ 34 0 37 (o' : Int)) h (fun x y z a => f x y z (by omega))
  obtain ⟨_, _, ⟨h36, h37, h40, h39⟩, hS, hF, ⟨h28, hC, hV⟩, hbd⟩ := h
  refine ⟨q2.1, q2.2, ?_, ?_, ?_, ⟨?_, ?_, ?_⟩, by omega⟩
  · rw [f 34 0 36 (by omega), m_up_at, f 34 0 40 (by omega), f 34 0 39 (by omega)]
    exact ⟨h36, rfl, h40, h39⟩
  · exact SA_up _ (fun i hi => f 34 39 i (by omega)) hS
  · exact FRM.cg fs (fun y z a _ _ => f 34 y z (by omega)) hF
  · rw [f 34 0 28 (by omega)]; exact h28
  · rw [codeL_congr (g := fun k => tk (μ 34 25 k) (μ 34 26 k)) _ _ (fun i _ _ => by rw [f 34 25 i (by omega), f 34 26 i (by omega)])]; exact hC
  · intro i a1 a2
    rw [f 34 25 i (by omega), f 34 26 i (by omega)]; exact hV i a1 a2
end MO
