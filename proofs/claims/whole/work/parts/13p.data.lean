/-! ===== a town in the making: what both sides have of it; the class's steps ===== -/
abbrev m_D : Type := List (List Nat × Int × Int) × List (List Nat × Int) × (Int × Int × Int) × (Nat → Option (Nat × Nat))
abbrev PR (α : Type) : Type := (Int × Int) ⊕ (Nat × α)
def sB {α β : Type} (r : PR α) (f : Nat → α → PR β) : PR β := match r with
  | .inl x => .inl x
  | .inr y => f y.1 y.2
/-- the name is told already -/
def dHas (D : m_D) (n : List Nat) : Bool := D.1.any (fun x => x.1 == n) || D.2.1.any (fun x => x.1 == n)
def sNum (T : Nat → Int) (L : Nat) (lo hi : Int) (e : Nat) : PR Int := if tLf T L e ≠ -1 then .inl (1, tLf T L e) else if tTk T L e ≠ 283 then .inl (1, (tAt T L e : Int)) else if tVal T L e < lo ∨ hi < tVal T L e then .inl (4, (tAt T L e : Int)) else .inr (tEn T L e, tVal T L e)
def sExp (T : Nat → Int) (L : Nat) (tok : Int) (e : Nat) : PR Unit := if tLf T L e ≠ -1 then .inl (1, tLf T L e) else if tTk T L e ≠ tok then .inl (1, (tAt T L e : Int)) else .inr (tEn T L e, ())
def sName (T : Nat → Int) (L : Nat) (D : m_D) (e : Nat) : PR (List Nat) := if tLf T L e ≠ -1 then .inl (1, tLf T L e) else if tTk T L e ≠ 282 then .inl (1, (tAt T L e : Int)) else if dHas D (tNm T L e) then .inl (2, (tAt T L e : Int)) else .inr (tEn T L e, tNm T L e)
def sChild (T : Nat → Int) (L : Nat) (D : m_D) (e : Nat) : PR (List Nat × Int × Int) := sB (sName T L D e) (fun e n => sB (sExp T L 257 e) (fun e _ => sB (sNum T L 0 99 e) (fun e c => sB (sExp T L 258 e) (fun e _ => sB (sNum T L 0 9 e) (fun e g => .inr (e, (n, c, g)))))))
def sKiln (T : Nat → Int) (L : Nat) (D : m_D) (e : Nat) : PR (List Nat × Int) := sB (sName T L D e) (fun e n => sB (sExp T L 260 e) (fun e _ => sB (sNum T L 1 6 e) (fun e r => .inr (e, (n, r)))))
def CPd (μ : m_M) (t : Nat) (D : m_D) : Prop := (μ t 0 3 = (D.1.length : Int) ∧ ∀ i x, D.1[i]? = some x → μ t 1 i = (nm27 x.1 5 : Int) ∧ μ t 2 i = x.2.1 ∧ μ t 3 i = x.2.2) ∧ (μ t 0 6 = (D.2.1.length : Int) ∧ ∀ i x, D.2.1[i]? = some x → μ t 5 i = (nm27 x.1 5 : Int) ∧ μ t 6 i = x.2) ∧ (μ t 0 7 = D.2.2.1.1 ∧ μ t 0 8 = D.2.2.1.2.1 ∧ μ t 0 9 = D.2.2.1.2.2) ∧ ∀ q, q < 4 → (D.2.2.2 q = none → μ t 14 q = 0 ∧ μ t 15 q = 0) ∧ ∀ y, D.2.2.2 q = some y → μ t 14 q = (y.1 : Int) ∧ μ t 15 q = ((y.1 + y.2 : Nat) : Int)
def WFd (D : m_D) (CC : List Int) : Prop := (D.1.length ≤ 8 ∧ ∀ x ∈ D.1, isNm x.1 ∧ (0 ≤ x.2.1 ∧ x.2.1 ≤ 99) ∧ 0 ≤ x.2.2 ∧ x.2.2 ≤ 9) ∧ (D.2.1.length ≤ 3 ∧ ∀ x ∈ D.2.1, isNm x.1 ∧ 1 ≤ x.2 ∧ x.2 ≤ 6) ∧ ((0 ≤ D.2.2.1.1 ∧ D.2.2.1.1 ≤ 999) ∧ (0 ≤ D.2.2.1.2.1 ∧ D.2.2.1.2.1 ≤ 999) ∧ 0 ≤ D.2.2.1.2.2 ∧ D.2.2.1.2.2 ≤ 100) ∧ ∀ q y, D.2.2.2 q = some y → q < 4 ∧ 0 < y.2 ∧ y.1 + y.2 ≤ CC.length ∧ tcs q ((CC.drop y.1).take y.2) [] = some [q == 1 || q == 2]
def CU (T : Nat → Int) (L t : Nat) (D : m_D) (CC : List Int) (e : Nat) (μ : m_M) : Prop := (CB T L μ ∧ (t = 32 ∨ t = 33) ∧ μ 2 0 1 = 100 * (t : Int) ∧ μ 2 0 3 = 0) ∧ (μ t 0 12 = (CC.length : Int) ∧ codeL (μ t 12) 0 CC.length = CC ∧ CC.length ≤ e) ∧ (CPd μ t D ∧ WFd D CC) ∧ (e ≤ L ∧ μ 3 0 7 = 0 ∧ TK T L μ e)
def CX (T : Nat → Int) (L t : Nat) (D : m_D) (CC : List Int) (e : Nat) (μ : m_M) : Prop := (tLf T L e = -1 ∧ CU T L t D CC e μ) ∨ (tLf T L e ≠ -1 ∧ CF t 1 (tLf T L e) μ)
def ofD (t : Nat) (μ μ1 : m_M) : Prop := ∀ x y z, x ≠ t → ¬ (x = 2 ∧ y = 0) → ¬ (x = 3 ∧ y = 0) → μ1 x y z = μ x y z
theorem ofD.rf (t : Nat) (μ : m_M) : ofD t μ μ := fun _ _ _ _ _ _ => rfl
theorem ofD.tr {t : Nat} {μ μ1 μ2 : m_M} (h : ofD t μ μ1) (h2 : ofD t μ1 μ2) : ofD t μ μ2 := fun x y z a b c => (h2 x y z a b c).trans (h x y z a b c)
theorem ofD.r3 {t : Nat} {μ μ1 : m_M} (h : of3 μ μ1) : ofD t μ μ1 := fun x y z _ _ c => h x y z (fun q => c ⟨q.1, q.2.1⟩)
theorem ofD.c {t : Nat} {μ μ1 : m_M} (h : ofC t μ μ1) : ofD t μ μ1 := fun x y z a b c => h x y z (fun q => c ⟨q.1, q.2.1⟩) (fun q => b ⟨q.1, q.2.1⟩) (fun q => a q.1)
section CUs
variable {G : m_G} {T : Nat → Int} {L t e : Nat} {D : m_D} {CC : List Int}
theorem CPd.cg {μ μ1 : m_M} (h : CPd μ t D) (f : ∀ y z, ¬ y = 12 → ¬ (y = 0 ∧ z = 12) → ¬ (y = 0 ∧ z = 10) → μ1 t y z = μ t y z) : CPd μ1 t D := by
  obtain ⟨⟨a1, a2⟩, ⟨b1, b2⟩, ⟨c1, c2, c3⟩, d⟩ := h
  refine ⟨⟨by rw [f 0 3 (by omega) (by omega) (by omega)]; exact a1, fun i x hx => ?_⟩, ⟨by rw [f 0 6 (by omega) (by omega) (by omega)]; exact b1, fun i x hx => ?_⟩, ⟨by rw [f 0 7 (by omega) (by omega) (by omega)]; exact c1, by rw [f 0 8 (by omega) (by omega) (by omega)]; exact c2, by rw [f 0 9 (by omega) (by omega) (by omega)]; exact c3⟩, fun q hq => ?_⟩
  · rw [f 1 i (by omega) (by omega) (by omega), f 2 i (by omega) (by omega) (by omega), f 3 i (by omega) (by omega) (by omega)]; exact a2 i x hx
  · rw [f 5 i (by omega) (by omega) (by omega), f 6 i (by omega) (by omega) (by omega)]; exact b2 i x hx
  · rw [f 14 q (by omega) (by omega) (by omega), f 15 q (by omega) (by omega) (by omega)]; exact d q hq
theorem CU.cf {μ μ1 : m_M} {k p : Int} (h : CU T L t D CC e μ) (f : of3 μ μ1) (h7 : μ1 3 0 7 = k) (hk : k ≠ 0) (h8 : μ1 3 0 8 = p) (h4 : μ1 3 0 4 = 285) : CF t k p μ1 := by
  have ht := h.1.2.1
  exact ⟨ht, ⟨by rw [f 2 0 1 (by omega)]; exact h.1.2.2.1, by rw [f t 0 12 (by omega), h.2.1.1]; omega⟩, h7, hk, h8, h4⟩
theorem u_next {d : Nat} {μ : m_M} (h : CU T L t D CC e μ) (hE : tTk T L e ≠ 284) {K : m_M → Prop} (kk : ∀ μ1, of3 μ μ1 → CX T L t D CC (tEn T L e) μ1 → K μ1) : c_v G (d + 3) YX7_next [vR 3 0] μ K := by
  have h0 := h
  obtain ⟨⟨hB, ht, h1, h3'⟩, ⟨h12, hC, hl⟩, ⟨hP, hW⟩, he, h7, hT⟩ := h
  have ne := nend (T := T) he hE
  have hlt : tAt T L e < L := by
    by_cases y : L ≤ tAt T L e
    · exact absurd (tk_end y) hE
    · omega
  have h3 : μ 3 0 3 = (tEn T L e : Int) := by rw [hT.2.2.2.1, if_neg (by omega)]
  refine c_next hB ne.2 h7 hT.2.2.2.2.2.2 h3 (by rw [hT.2.2.1]; exact Lok.next he (fun i hi => (hB.2.1 i hi).1) hlt) (fun hf μ1 f a7 a8 a4 => kk μ1 f (Or.inr ⟨hf, h0.cf f a7 (by decide) a8 a4⟩)) (fun μ1 f a7 aT => kk μ1 f (Or.inl ⟨aT.1, ⟨hB.of f, ht, ?_, ?_⟩, ⟨?_, ?_, by omega⟩, ⟨hP.cg (fun y z _ _ _ => f t y z (by omega)), hW⟩, ne.2, a7, aT⟩))
  · rw [f 2 0 1 (by omega)]; exact h1
  · rw [f 2 0 3 (by omega)]; exact h3'
  · rw [f t 0 12 (by omega)]; exact h12
  · rw [codeL_congr (g := μ t 12) _ _ (fun i _ _ => f t 12 i (by omega))]; exact hC
theorem u_fail {d : Nat} {μ : m_M} (h : CU T L t D CC e μ) {a b : Int} (ha : a ≠ 0) {K : m_M → Prop} (kk : ∀ μ1, of3 μ μ1 → CF t a b μ1 → K μ1) : c_v G (d + 1) YX7_fail [vR 3 0, vI a, vI b] μ K := c_fail h.2.2.2.2.1 (fun μ1 f a7 a8 a4 => kk μ1 f (h.cf f a7 ha a8 a4))
/-- the class's state behind a step -/
def COut {α : Type} (T : Nat → Int) (L t : Nat) (D : m_D) (CC : List Int) (μ : m_M) (r : PR α) : Prop := match r with
  | .inl x => CF t x.1 x.2 μ
  | .inr y => CX T L t D CC y.1 μ
theorem x_num {d : Nat} {μ : m_M} {lo hi : Int} (h : CX T L t D CC e μ) {K : Int → m_M → Prop} (kk : ∀ r μ1, of3 μ μ1 → COut T L t D CC μ1 (sNum T L lo hi e) → (∀ y, sNum T L lo hi e = .inr y → r = y.2) → K r μ1) : c_i G (d + 4) YX6_number [vR 2 0, vI lo, vI hi] μ K := by
  refine EX6_number (fun x1 ex => ?_)
  rcases h with ⟨hf, h⟩ | ⟨hf, h⟩
  · have hT := h.2.2.2.2.2
    rw [hT.2.2.1, hT.2.1]
    refine ⟨fun z => ?_, fun z => u_fail h (by decide) (fun μ1 f1 g1 => kk lo μ1 f1 ?_ ?_)⟩
    · have v6 := hT.2.2.2.2.1 z
      rw [v6] at ex
      subst ex
      have nb : ¬ tLf T L e ≠ -1 := fun y => y hf
      have n2 : ¬ tTk T L e ≠ 283 := fun y => y z
      refine ⟨fun z2 => u_fail h (by decide) (fun μ1 f1 g1 => kk lo μ1 f1 ?_ ?_), fun z2 => ⟨fun z3 => u_next h (by omega) (fun μ1 f1 g1 => kk _ μ1 f1 ?_ ?_), fun z3 => u_fail h (by decide) (fun μ1 f1 g1 => kk lo μ1 f1 ?_ ?_)⟩⟩
      · unfold sNum; rw [if_neg nb, if_neg n2, if_pos (Or.inl z2)]; exact g1
      · intro y hy; unfold sNum at hy; rw [if_neg nb, if_neg n2, if_pos (Or.inl z2)] at hy; cases hy
      · unfold sNum; rw [if_neg nb, if_neg n2, if_neg (by omega)]; exact g1
      · intro y hy; unfold sNum at hy; rw [if_neg nb, if_neg n2, if_neg (by omega)] at hy; cases hy; rfl
      · unfold sNum; rw [if_neg nb, if_neg n2, if_pos (by omega)]; exact g1
      · intro y hy; unfold sNum at hy; rw [if_neg nb, if_neg n2, if_pos (by omega)] at hy; cases hy
    · unfold sNum; rw [if_neg (fun y => y hf), if_pos z]; exact g1
    · intro y hy; unfold sNum at hy; rw [if_neg (fun y => y hf), if_pos z] at hy; cases hy
  · rw [h.2.2.2.2.2]
    refine ⟨fun z => absurd z (by decide), fun _ => c_fail2 (by rw [h.2.2.1]; exact h.2.2.2.1) h.2.2.2.2.2 (kk lo μ (of3.rf μ) ?_ ?_)⟩
    · unfold sNum; rw [if_pos hf]; exact h
    · intro y hy; unfold sNum at hy; rw [if_pos hf] at hy; cases hy
theorem x_exp {d : Nat} {μ : m_M} {a : Int} (ha : a ≠ 284 ∧ a ≠ 285) (h : CX T L t D CC e μ) {K : m_M → Prop} (kk : ∀ μ1, of3 μ μ1 → COut T L t D CC μ1 (sExp T L a e) → K μ1) : c_v G (d + 4) YX6_expect [vR 2 0, vI a] μ K := by
  refine EX6_expect ?_
  rcases h with ⟨hf, h⟩ | ⟨hf, h⟩
  · have hT := h.2.2.2.2.2
    rw [hT.2.2.1, hT.2.1]
    refine ⟨fun z => u_fail h (by decide) (fun μ1 f1 g1 => kk μ1 f1 ?_), fun z => u_next h (by omega) (fun μ1 f1 g1 => kk μ1 f1 ?_)⟩
    · unfold sExp; rw [if_neg (fun y => y hf), if_pos z]; exact g1
    · unfold sExp; rw [if_neg (fun y => y hf), if_neg (fun y => y z)]; exact g1
  · rw [h.2.2.2.2.2]
    refine ⟨fun _ => c_fail2 (by rw [h.2.2.1]; exact h.2.2.2.1) h.2.2.2.2.2 (kk μ (of3.rf μ) ?_), fun z => absurd z.symm ha.2⟩
    unfold sExp; rw [if_pos hf]; exact h
/-! behind a fault -/
theorem f_num {d : Nat} {μ : m_M} {k p lo hi : Int} (h : CF t k p μ) {K : Int → m_M → Prop} (kk : K lo μ) : c_i G (d + 4) YX6_number [vR 2 0, vI lo, vI hi] μ K := by
  refine EX6_number (fun x1 ex => ?_)
  rw [h.2.2.2.2.2]
  exact ⟨fun z => absurd z (by decide), fun _ => c_fail2 (by rw [h.2.2.1]; exact h.2.2.2.1) h.2.2.2.2.2 kk⟩
/-- the class knows the names -/
theorem x_knows {d : Nat} {μ : m_M} (h : CU T L t D CC e μ) {n : List Nat} (hn : isNm n) {K : Int → m_M → Prop} (kk : K (if dHas D n then 1 else 0) μ) : c_i G (d + 1) YX10_knows [vR t 0, vI (nm27 n 5 : Int)] μ K := by
  have hc := cls9 h.1.2.1
  obtain ⟨⟨a1, a2⟩, ⟨b1, b2⟩, _⟩ := h.2.2.1.1
  obtain ⟨⟨w1, w2⟩, ⟨w3, w4⟩, _⟩ := h.2.2.1.2
  refine EX10_knows hc (fun X C R => ?_)
  have at30 : (D.1.any (fun x => x.1 == n)) = false → ∀ (r i : Nat), i + r = D.2.1.length → (∀ j x, j < i → D.2.1[j]? = some x → ¬ x.1 = n) → mW G X YX10_knows μ 30 [some (vR t 0), some (vI (nm27 n 5 : Int)), some (vI (i : Int))] [] := by
    intro hno r
    induction r with
    | zero =>
      intro i hi hj
      refine VX10_knows_30 C R hc ⟨fun _ => ?_, fun z => absurd (by rw [b1]; omega) z⟩
      have : dHas D n = false := by
        unfold dHas
        rw [hno, Bool.false_or]
        apply Bool.eq_false_iff.2
        intro y
        obtain ⟨x, hx, hxe⟩ := List.any_eq_true.1 y
        obtain ⟨j, hj2, hj3⟩ := List.getElem_of_mem hx
        exact hj j x (by omega) (by rw [List.getElem?_eq_getElem hj2, hj3]) (beq_iff_eq.1 hxe)
      rw [this] at kk
      exact kk
    | succ r ih =>
      intro i hi hj
      have hil : i < D.2.1.length := by omega
      have hx := b2 i D.2.1[i] (List.getElem?_eq_getElem hil)
      have hm : D.2.1[i] ∈ D.2.1 := List.getElem_mem hil
      refine VX10_knows_30 C R hc ⟨fun z => absurd z (by rw [b1]; omega), fun _ => ⟨⟨by omega, by omega⟩, ?_⟩⟩
      rw [Int.toNat_natCast, hx.1]
      refine ⟨fun z x1 e1 => ?_, fun z => ?_⟩
      · rw [w32_s (by omega)] at e1
        subst e1
        refine ih (i + 1) (by omega) (fun j x hj1 hj2 => ?_)
        by_cases y : j < i
        · exact hj j x y hj2
        · have : j = i := by omega
          subst this
          rw [List.getElem?_eq_getElem hil] at hj2
          cases hj2
          intro w
          exact z (by rw [w])
      · have en : D.2.1[i].1 = n := nm27_inj (w4 _ hm).1 hn (by omega)
        have : dHas D n = true := by
          unfold dHas
          rw [Bool.or_eq_true]
          exact Or.inr (List.any_eq_true.2 ⟨_, hm, beq_iff_eq.2 en⟩)
        rw [this] at kk
        exact kk
  have at2 : ∀ (r i : Nat), i + r = D.1.length → (∀ j x, j < i → D.1[j]? = some x → ¬ x.1 = n) → mW G X YX10_knows μ 2 [some (vR t 0), some (vI (nm27 n 5 : Int)), some (vI (i : Int))] [] := by
    intro r
    induction r with
    | zero =>
      intro i hi hj
      refine VX10_knows_2 C R hc ⟨fun _ => at30 ?_ D.2.1.length 0 (by omega) (fun j x z => by omega), fun z => absurd (by rw [a1]; omega) z⟩
      apply Bool.eq_false_iff.2
      intro y
      obtain ⟨x, hx, hxe⟩ := List.any_eq_true.1 y
      obtain ⟨j, hj2, hj3⟩ := List.getElem_of_mem hx
      exact hj j x (by omega) (by rw [List.getElem?_eq_getElem hj2, hj3]) (beq_iff_eq.1 hxe)
    | succ r ih =>
      intro i hi hj
      have hil : i < D.1.length := by omega
      have hx := a2 i D.1[i] (List.getElem?_eq_getElem hil)
      have hm : D.1[i] ∈ D.1 := List.getElem_mem hil
      refine VX10_knows_2 C R hc ⟨fun z => absurd z (by rw [a1]; omega), fun _ => ⟨⟨by omega, by omega⟩, ?_⟩⟩
      rw [Int.toNat_natCast, hx.1]
      refine ⟨fun z x1 e1 => ?_, fun z => ?_⟩
      · rw [w32_s (by omega)] at e1
        subst e1
        refine ih (i + 1) (by omega) (fun j x hj1 hj2 => ?_)
        by_cases y : j < i
        · exact hj j x y hj2
        · have : j = i := by omega
          subst this
          rw [List.getElem?_eq_getElem hil] at hj2
          cases hj2
          intro w
          exact z (by rw [w])
      · have en : D.1[i].1 = n := nm27_inj (w2 _ hm).1 hn (by omega)
        have : dHas D n = true := by
          unfold dHas
          rw [Bool.or_eq_true]
          exact Or.inl (List.any_eq_true.2 ⟨_, hm, beq_iff_eq.2 en⟩)
        rw [this] at kk
        exact kk
  exact at2 D.1.length 0 (by omega) (fun j x z => by omega)
end CUs
