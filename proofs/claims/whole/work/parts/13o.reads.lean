/-! ===== a whole formula, read by the class, and by the reference ===== -/
def Mi (T : Nat → Int) (L b q e : Nat) (CC : List Int) (μ : m_M) : Prop := (MBs T L μ ∧ MK T L μ e ∧ e ≤ L) ∧ (μ 34 0 8 = 0 ∧ μ 34 0 29 = (b : Int) ∧ b ≤ 1 ∧ μ 34 0 30 = (q : Int) ∧ μ 34 0 9 = -1) ∧ CDS b μ CC ∧ CC.length ≤ e
def RDS (G : m_G) (T : Nat → Int) (L b q : Nat) (a1 : Int) (e : Nat) (CC : List Int) (e' : Nat) (CC' : List Int) : Prop := ∀ (d : Nat) (K : m_M → Prop) (μ : m_M), Mi T L b q e CC μ → (∀ μ1, ofP b μ μ1 → Mi T L b q e' CC' μ1 → K μ1) → c_v G (d + 6) YX12_reads [vR 34 0, vI a1] μ K
def RDF (G : m_G) (T : Nat → Int) (L b q : Nat) (a1 : Int) (e : Nat) (CC : List Int) (k p : Int) : Prop := ∀ (d : Nat) (K : m_M → Prop) (μ : m_M), Mi T L b q e CC μ → (∀ μ1, Mf b μ k p μ1 → K μ1) → c_v G (d + 6) YX12_reads [vR 34 0, vI a1] μ K
section RT
variable {G : m_G} {T : Nat → Int} {L t b q e : Nat} {CC : List Int}
theorem rd_start {d : Nat} {K : m_M → Prop} {μ : m_M} {a1 kd : Int} (hk : kd = (if a1 = 0 then 0 else 1)) (h : Mi T L b q e CC μ) (k : ∀ (X : m_X), mC G X YX12_reads (d + 6) → r_v G X K → ∀ μ1, Mc T L b q μ (e, 0, 0, [((kd, 0, 1, none), [])], CC) μ1 → W1 G X a1 μ1) : c_v G (d + 6) YX12_reads [vR 34 0, vI a1] μ K := by
  obtain ⟨⟨hB, hM, he⟩, ⟨h8, h29, hb, h30⟩, ⟨h28, hC, hV⟩, hcl⟩ := h
  have hL := hB.2.2
  refine EX12_reads (fun X C R => ⟨fun _ μ1 e1 μ2 e2 μ3 e3 μ4 e4 => ?_, fun z => absurd (by rw [h8]; decide) z⟩)
  have f : ∀ x y z, ¬ (x = 34 ∧ y = 0 ∧ (z = 36 ∨ z = 37 ∨ z = 39 ∨ z = 40)) → μ4 x y z = μ x y z := fun x y z a => by rw [e4, m_up_ne _ _ (by omega), e3, m_up_ne _ _ (by omega), e2, m_up_ne _ _ (by omega), e1, m_up_ne _ _ (by omega)]
  have h4 : Mm T L b (q : Int) μ e e 0 0 [] CC μ4 := by
    refine ⟨⟨fun x y z a => f x y z (by omega), ⟨by rw [f 34 0 2 (by omega)]; exact hB.1, fun i hi => by rw [f 34 1 i (by omega)]; exact hB.2.1 i hi, hB.2.2⟩, hM.cg (fun z a b c d => f 34 0 z (by omega)), he⟩, ?_, ?_, trivial, trivial, ⟨?_, ?_, ?_⟩, ?_⟩
    · rw [f 34 0 8 (by omega), f 34 0 29 (by omega), f 34 0 30 (by omega), f 34 0 9 (by omega)]; exact ⟨h8, h29, hb, h30⟩
    · refine ⟨?_, ?_, ?_, ?_⟩
      · rw [e4, m_up_ne _ _ (by omega), e3, m_up_ne _ _ (by omega), e2, m_up_ne _ _ (by omega), e1, m_up_at]; rfl
      · rw [e4, m_up_ne _ _ (by omega), e3, m_up_ne _ _ (by omega), e2, m_up_at]; rfl
      · rw [e4, m_up_at]
      · rw [e4, m_up_ne _ _ (by omega), e3, m_up_at]; rfl
    · rw [f 34 0 28 (by omega)]; exact h28
    · rw [codeL_congr (g := fun k => tk (μ 34 25 k) (μ 34 26 k)) _ _ (fun i _ _ => by rw [f 34 25 i (by omega), f 34 26 i (by omega)])]; exact hC
    · intro i a1 a2
      rw [f 34 25 i (by omega), f 34 26 i (by omega)]; exact hV i a1 a2
    · show CC.length + 0 ≤ e ∧ e ≤ 1600 ∧ 0 ≤ 19 ∧ 0 ≤ 400 ∧ 0 ≤ 100
      omega
  refine ⟨fun z => ?_, fun z => ?_⟩
  · rw [if_pos z] at hk
    subst hk
    exact mo_pushes (d := d + 4) h4 (by decide) (fun μ5 h5 => k X C R μ5 h5)
  · rw [if_neg z] at hk
    subst hk
    exact mo_pushes (d := d + 4) h4 (by decide) (fun μ5 h5 => k X C R μ5 h5)
theorem rds_of {a1 kd ph bg : Int} {e' : Nat} {δ CL1 CC' : List Int} (hk : kd = (if a1 = 0 then 0 else 1)) (hk2 : 0 ≤ kd ∧ kd < 2) (r : Rd G T L b q (e, 0, 0, [((kd, 0, 1, none), [])], CC) (e', 0 + nots δ, 1, [((kd, ph, bg, none), δ ++ [])], CL1)) (hf : tLf T L e' = -1) (hg : nGo kd ph (tTk T L e')) (ha : ∀ x ∈ δ, x ≠ 0) (eq : CL1 ++ tks δ = CC') (hc : CC'.length ≤ e') : RDS G T L b q a1 e CC e' CC' := by
  intro d K μ h k
  refine rd_start hk h (fun X C R μ1 h1 => ?_)
  rw [List.append_nil] at r
  have ge := gE (G := G) (b := b) (q := q) (o := 0) (kd := kd) (ph := ph) (bg := bg) (pr := none) (ops := δ) (fs := []) (CL := CL1) hk2 hf hg ha
  rw [eq] at ge
  refine (r.trE ge) (d + 1) X K a1 μ C R (fun μ2 h2 => ?_) μ1 h1
  have h2 := h2.m
  exact k μ2 h2.1.1 ⟨⟨h2.1.2.1, h2.1.2.2.1, h2.1.2.2.2⟩, h2.2.1, h2.2.2.2.2.2.1, hc⟩
theorem rdf_of {a1 kd : Int} {k p : Int} (hk : kd = (if a1 = 0 then 0 else 1)) (r : RdF G T L b q (e, 0, 0, [((kd, 0, 1, none), [])], CC) k p) : RDF G T L b q a1 e CC k p := by
  intro d K μ h kk
  exact rd_start hk h (fun X C R μ1 h1 => r (d + 1) X K a1 μ C R kk μ1 h1)
/-- what the class reads as the q-th formula, the reference reads so too -/
theorem c_formula {d : Nat} {μ : m_M} {K : m_M → Prop} (hq : q < 4) (h : CS T L t q μ e 0 CC) (hc : CC.length ≤ e)
    (ks : ∀ (μ1 : m_M) (e' : Nat) (E : List Int), ofC t μ μ1 → CS T L t q μ1 e' 0 (CC ++ E) → e < e' → RDS G T L b q (if q = 1 ∨ q = 2 then 1 else 0) e CC e' (CC ++ E) → tcs q E [] = some [q == 1 || q == 2] → E ≠ [] → (CC ++ E).length ≤ e' → K μ1)
    (kf : ∀ (μ1 : m_M) (k p : Int), ofC t μ μ1 → CF t k p μ1 → RDF G T L b q (if q = 1 ∨ q = 2 then 1 else 0) e CC k p → K μ1) :
    ((¬ (q = 1 ∨ q = 2)) → c_v G (d + 84) YX6_readSum [vR 2 0] μ K) ∧ ((q = 1 ∨ q = 2) → c_v G (d + 84) YX6_readTest [vR 2 0] μ K) := by
  have hall := p_all (G := G) (T := T) (L := L) (t := t) (b := b) hq (L - e + 1)
  refine ⟨fun z => ?_, fun z => ?_⟩
  · rw [if_neg z] at ks kf
    refine hall.1 (d + 4) e 0 0 0 1 none [] [] CC μ K (by omega) h (by decide) (Nat.zero_le _) (by show 0 ≤ _; omega) (by show CC.length + 0 ≤ e; omega) (by decide) ⟨fun y => by have := y.1; omega, by decide, by decide⟩ ?_ ?_
    · intro μ1 e' ph' bg' δ E CL1 f1 h1 lt r eq al ty cnt ps
      have ps : (ph' = 0 ∧ bg' = 0) ∧ ¬ isAr (tTk T L e') := ps
      have ty0 := ty [] (by show 0 ≤ _; omega)
      have cnt : (CC ++ E).length + 0 ≤ e' := cnt
      refine ks μ1 e' E f1 h1 lt (rds_of rfl (by decide) r h1.2.2.2.1 ⟨fun y => by have : (0 : Int) = 1 ∨ (0 : Int) = 5 ∨ (0 : Int) = 6 := y; omega, fun _ => ps.2⟩ (fun x hx => (al x hx).2) eq cnt) ?_ (fun y => by rw [y] at ty0; cases ty0) cnt
      rw [ty0]
      have hq' : q = 0 ∨ q = 3 := by omega
      rcases hq' with y | y <;> subst y <;> rfl
    · intro μ1 k p f1 g1 rf
      exact kf μ1 k p f1 g1 (rdf_of rfl rf)
  · rw [if_pos z] at ks kf
    refine hall.2.2 d e 0 1 0 1 none [] [] CC μ K (by omega) h (by decide) (Nat.zero_le _) (by show 0 ≤ _; omega) (by show CC.length + 0 ≤ e; omega) (by decide) ⟨Or.inl rfl, rfl, by decide, by decide⟩ ?_ ?_
    · intro μ1 e' ph' bg' δ E CL1 f1 h1 lt r eq al ty cnt ps
      have ps : ph' ≠ 0 ∧ (ph' < 2 → ¬ isAr (tTk T L e')) ∧ tTk T L e' ≠ 277 ∧ tTk T L e' ≠ 276 := ps
      have ty0 := ty [] (by show 0 ≤ _; omega)
      have cnt : (CC ++ E).length + 0 ≤ e' := cnt
      refine ks μ1 e' E f1 h1 lt (rds_of (kd := 1) rfl (by decide) r h1.2.2.2.1 ⟨fun _ => ⟨ps.1, ps.2.2.2, ps.2.2.1⟩, ps.2.1⟩ (fun x hx => (al x hx).2) eq cnt) ?_ (fun y => by rw [y] at ty0; cases ty0) cnt
      rw [ty0]
      rcases z with y | y <;> subst y <;> rfl
    · intro μ1 k p f1 g1 rf
      exact kf μ1 k p f1 g1 (rdf_of (kd := 1) rfl rf)
end RT
