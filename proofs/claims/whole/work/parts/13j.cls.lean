/-! ===== the class reads a formula: its state, and what it does behind a fault ===== -/
def ofC (t : Nat) (μ μ1 : m_M) : Prop := ∀ x y z, ¬ (x = 3 ∧ y = 0 ∧ 3 ≤ z) → ¬ (x = 2 ∧ y = 0 ∧ z = 3) → ¬ (x = t ∧ (y = 12 ∨ (y = 0 ∧ z = 12))) → μ1 x y z = μ x y z
theorem ofC.rf (t : Nat) (μ : m_M) : ofC t μ μ := fun _ _ _ _ _ _ => rfl
theorem ofC.tr {t : Nat} {μ μ1 μ2 : m_M} (h : ofC t μ μ1) (h2 : ofC t μ1 μ2) : ofC t μ μ2 := fun x y z a b c => (h2 x y z a b c).trans (h x y z a b c)
theorem ofC.r3 {t : Nat} {μ μ1 : m_M} (h : of3 μ μ1) : ofC t μ μ1 := fun x y z a _ _ => h x y z a
def CQ (T : Nat → Int) (L t q : Nat) (μ : m_M) (o : Nat) (CC : List Int) : Prop := CB T L μ ∧ (t = 32 ∨ t = 33) ∧ (μ 2 0 1 = 100 * (t : Int) ∧ μ 2 0 2 = 261 + (q : Int) ∧ μ 2 0 3 = (o : Int)) ∧ μ t 0 12 = (CC.length : Int) ∧ codeL (μ t 12) 0 CC.length = CC
def CS (T : Nat → Int) (L t q : Nat) (μ : m_M) (e o : Nat) (CC : List Int) : Prop := CQ T L t q μ o CC ∧ e ≤ L ∧ μ 3 0 7 = 0 ∧ TK T L μ e
def CF (t : Nat) (k p : Int) (μ : m_M) : Prop := (t = 32 ∨ t = 33) ∧ (μ 2 0 1 = 100 * (t : Int) ∧ 0 ≤ μ t 0 12) ∧ (μ 3 0 7 = k ∧ k ≠ 0 ∧ μ 3 0 8 = p ∧ μ 3 0 4 = 285)
theorem cls9 {t : Nat} (h : t = 32 ∨ t = 33) : m_cls t = 9 := by rcases h with e | e <;> subst e <;> rfl
section CF
variable {G : m_G} {T : Nat → Int} {L t q : Nat} {k p : Int}
theorem CQ.r3 {μ μ1 : m_M} {o : Nat} {CC : List Int} (h : CQ T L t q μ o CC) (f : of3 μ μ1) : CQ T L t q μ1 o CC := by
  obtain ⟨hB, ht, ⟨h1, h2, h3⟩, h12, hC⟩ := h
  refine ⟨hB.of f, ht, ?_, ?_, ?_⟩
  · rw [f 2 0 1 (by omega), f 2 0 2 (by omega), f 2 0 3 (by omega)]; exact ⟨h1, h2, h3⟩
  · rw [f t 0 12 (by omega)]; exact h12
  · rw [codeL_congr (g := μ t 12) _ _ (fun i _ _ => f t 12 i (by omega))]; exact hC
theorem CS.cf {μ μ1 : m_M} {o : Nat} {CC : List Int} (h : CQ T L t q μ o CC) (f : of3 μ μ1) (h7 : μ1 3 0 7 = k) (hk : k ≠ 0) (h8 : μ1 3 0 8 = p) (h4 : μ1 3 0 4 = 285) : CF t k p μ1 := by
  have hh := h.r3 f
  exact ⟨hh.2.1, ⟨hh.2.2.1.1, by rw [hh.2.2.2.1]; omega⟩, h7, hk, h8, h4⟩
theorem f_add {d : Nat} {μ : m_M} (h : CF t k p μ) {a : Int} {K : m_M → Prop} (kk : ∀ μ1, ofC t μ μ1 → CF t k p μ1 → K μ1) : c_v G (d + 1) YX10_addCode [vR t 0, vI a] μ K := by
  have h0 := h.2.1.2
  have ht := h.1
  refine EX10_addCode (cls9 h.1) ⟨fun _ => kk μ (ofC.rf t μ) h, fun z => ⟨⟨h0, by omega⟩, fun μ1 e1 μ2 e2 => ?_⟩⟩
  have n1 : μ1 t 0 12 = μ t 0 12 := by rw [e1, m_up_ne _ _ (by omega)]
  rw [n1, w32_le (by omega) (by omega)] at e2
  have f : ∀ x y z, ¬ (x = t ∧ (y = 12 ∨ (y = 0 ∧ z = 12))) → μ2 x y z = μ x y z := fun x y z a => by rw [e2, m_up_ne _ _ (by omega), e1, m_up_ne _ _ (by omega)]
  refine kk μ2 (fun x y z _ _ a => f x y z a) ⟨ht, ⟨?_, ?_⟩, ?_⟩
  · rw [f 2 0 1 (by omega)]; exact h.2.1.1
  · rw [e2, m_up_at]; omega
  · rw [f 3 0 7 (by omega), f 3 0 8 (by omega), f 3 0 4 (by omega)]; exact h.2.2
theorem f_part {d : Nat} {μ : m_M} (h : CF t k p μ) {K : m_M → Prop} (kk : ∀ μ1, ofC t μ μ1 → CF t k p μ1 → K μ1) : c_v G (d + 3) YX6_readPart [vR 2 0] μ K := by
  refine EX6_readPart (fun x1 e1 => ?_)
  rw [h.2.2.2.2.2] at e1
  subst e1
  refine ⟨fun z => absurd z (by decide), fun z => absurd z (by decide), fun z => absurd z (by decide), fun z => absurd z (by decide), fun z => absurd z (by decide), fun _ => ?_⟩
  refine EX6_readFactWord (EX6_mayStand ⟨fun z => absurd z (by decide), fun z => absurd z (by decide), fun z => absurd z (by decide), fun z => absurd z (by decide), fun z => absurd z (by decide), fun z => absurd z (by decide), fun z => absurd z (by decide), fun z => absurd z (by decide), fun z => absurd z (by decide), fun z => absurd z (by decide), fun _ => ⟨fun _ => ?_, z0⟩⟩)
  exact c_fail2 (by rw [h.2.2.1]; exact h.2.2.2.1) h.2.2.2.2.2 (kk μ (ofC.rf t μ) h)
theorem f_product {d : Nat} {μ : m_M} (h : CF t k p μ) {K : m_M → Prop} (kk : ∀ μ1, ofC t μ μ1 → CF t k p μ1 → K μ1) : c_v G (d + 4) YX6_readProduct [vR 2 0] μ K := by
  refine EX6_readProduct (fun X C R => f_part h (fun μ1 f1 h1 => VX6_readProduct_6 C R ⟨fun z => absurd z (by decide), fun _ => ?_⟩))
  rw [h1.2.2.2.2.2]
  exact EX6_isProductSign ⟨fun z => absurd z (by decide), fun _ => ⟨fun z => absurd z (by decide), fun _ => ⟨fun _ => ⟨fun _ => kk μ1 f1 h1, z0⟩, fun z => absurd z (by decide)⟩⟩⟩
theorem f_sum {d : Nat} {μ : m_M} (h : CF t k p μ) {K : m_M → Prop} (kk : ∀ μ1, ofC t μ μ1 → CF t k p μ1 → K μ1) : c_v G (d + 5) YX6_readSum [vR 2 0] μ K := by
  refine EX6_readSum (fun X C R => f_product h (fun μ1 f1 h1 => VX6_readSum_6 C R ⟨fun z => absurd z (by decide), fun _ => ?_⟩))
  rw [h1.2.2.2.2.2]
  exact ⟨fun z => absurd z (by decide), fun _ => ⟨fun _ => kk μ1 f1 h1, fun z => absurd z (by decide)⟩⟩
theorem f_comp {d : Nat} {μ : m_M} (h : CF t k p μ) {K : m_M → Prop} (kk : ∀ μ1, ofC t μ μ1 → CF t k p μ1 → K μ1) : c_v G (d + 6) YX6_readComparison [vR 2 0] μ K := by
  refine EX6_readComparison (f_sum h (fun μ1 f1 h1 x2 e2 => ?_))
  rw [h1.2.2.2.2.2] at e2
  subst e2
  exact ⟨fun z => absurd z (by decide), fun _ => ⟨fun z => absurd z (by decide), fun _ => ⟨fun z => absurd z (by decide), fun _ => c_fail2 (by rw [h1.2.2.1]; exact h1.2.2.2.1) h1.2.2.2.2.2 (kk μ1 f1 h1)⟩⟩⟩
theorem f_fact {d : Nat} {μ : m_M} (h : CF t k p μ) {K : m_M → Prop} (kk : ∀ μ1, ofC t μ μ1 → CF t k p μ1 → K μ1) : c_v G (d + 7) YX6_readFact [vR 2 0] μ K := by
  refine EX6_readFact ?_
  rw [h.2.2.2.2.2]
  exact ⟨fun z => absurd z (by decide), fun z => absurd z (by decide), fun z => absurd z (by decide), fun _ => f_comp h kk⟩
theorem f_both {d : Nat} {μ : m_M} (h : CF t k p μ) {K : m_M → Prop} (kk : ∀ μ1, ofC t μ μ1 → CF t k p μ1 → K μ1) : c_v G (d + 8) YX6_readBoth [vR 2 0] μ K := by
  refine EX6_readBoth (fun X C R => f_fact h (fun μ1 f1 h1 => VX6_readBoth_6 C R ⟨fun z => absurd z (by decide), fun _ => ?_⟩))
  rw [h1.2.2.2.2.2]
  exact ⟨fun _ => kk μ1 f1 h1, fun z => absurd z (by decide)⟩
theorem f_test {d : Nat} {μ : m_M} (h : CF t k p μ) {K : m_M → Prop} (kk : ∀ μ1, ofC t μ μ1 → CF t k p μ1 → K μ1) : c_v G (d + 9) YX6_readTest [vR 2 0] μ K := by
  refine EX6_readTest (fun X C R => f_both h (fun μ1 f1 h1 => VX6_readTest_6 C R ⟨fun z => absurd z (by decide), fun _ => ?_⟩))
  rw [h1.2.2.2.2.2]
  exact ⟨fun _ => kk μ1 f1 h1, fun z => absurd z (by decide)⟩
theorem f_expect {d : Nat} {μ : m_M} (h : CF t k p μ) {a : Int} (ha : a ≠ 285) {K : m_M → Prop} (kk : K μ) : c_v G (d + 2) YX6_expect [vR 2 0, vI a] μ K := by
  refine EX6_expect ⟨fun _ => c_fail2 (by rw [h.2.2.1]; exact h.2.2.2.1) h.2.2.2.2.2 kk, fun z => ?_⟩
  rw [h.2.2.2.2.2] at z
  exact absurd z.symm ha
theorem CF.opn {μ : m_M} (h : CF t k p μ) (v : Int) : CF t k p (m_up μ 2 0 3 v) ∧ ofC t μ (m_up μ 2 0 3 v) := by
  have ht := h.1
  refine ⟨⟨h.1, ⟨?_, ?_⟩, ?_⟩, fun x y z _ a _ => m_up_ne _ _ a⟩
  · rw [m_up_ne _ _ (by omega)]; exact h.2.1.1
  · rw [m_up_ne _ _ (by omega)]; exact h.2.1.2
  · rw [m_up_ne _ _ (by omega), m_up_ne _ _ (by omega), m_up_ne _ _ (by omega)]; exact h.2.2
theorem f_close {d : Nat} {μ : m_M} (h : CF t k p μ) {a : Int} (ha : a ≠ 285) {K : m_M → Prop} (kk : ∀ μ1, ofC t μ μ1 → CF t k p μ1 → K μ1) : c_v G (d + 3) YX6_closeOne [vR 2 0, vI a] μ K := by
  refine EX6_closeOne (fun μ1 e1 => ?_)
  have g := h.opn (w32 (μ 2 0 3 - 1))
  rw [← e1] at g
  refine ⟨fun _ => c_fail2 (by rw [g.1.2.2.1]; exact g.1.2.2.2.1) g.1.2.2.2.2.2 (kk μ1 g.2 g.1), fun z => ?_⟩
  rw [g.1.2.2.2.2.2] at z
  exact absurd z.symm ha
/-! without a fault -/
variable {e o : Nat} {CC : List Int}
theorem s_next {d : Nat} {μ : m_M} (h : CS T L t q μ e o CC) (hE : tTk T L e ≠ 284) {K : m_M → Prop} (kf : tLf T L (tEn T L e) ≠ -1 → ∀ μ1, ofC t μ μ1 → CF t 1 (tLf T L (tEn T L e)) μ1 → K μ1) (kk : ∀ μ1, ofC t μ μ1 → CS T L t q μ1 (tEn T L e) o CC → K μ1) : c_v G (d + 3) YX7_next [vR 3 0] μ K := by
  obtain ⟨hQ, he, h7, hT⟩ := h
  have g2 := tEn_in (T := T) he
  have hl : tAt T L e < L := by
    by_cases y : L ≤ tAt T L e
    · exact absurd (tk_end y) hE
    · omega
  have h3 : μ 3 0 3 = (tEn T L e : Int) := by rw [hT.2.2.2.1, if_neg (by omega)]
  refine c_next hQ.1 g2.2.1 h7 hT.2.2.2.2.2.2 h3 (by rw [hT.2.2.1]; exact Lok.next he (fun i hi => (hQ.1.2.1 i hi).1) hl) (fun hf μ1 f a7 a8 a4 => kf hf μ1 (ofC.r3 f) (CS.cf hQ f a7 (by decide) a8 a4)) (fun μ1 f a7 aT => kk μ1 (ofC.r3 f) ⟨hQ.r3 f, g2.2.1, a7, aT⟩)
theorem s_fail {d : Nat} {μ : m_M} (h : CS T L t q μ e o CC) {a b : Int} (ha : a ≠ 0) {K : m_M → Prop} (kk : ∀ μ1, ofC t μ μ1 → CF t a b μ1 → K μ1) : c_v G (d + 1) YX7_fail [vR 3 0, vI a, vI b] μ K := c_fail h.2.2.1 (fun μ1 f a7 a8 a4 => kk μ1 (ofC.r3 f) (CS.cf h.1 f a7 ha a8 a4))
theorem s_add {d : Nat} {μ : m_M} (h : CS T L t q μ e o CC) (hc : CC.length < 1600) {x : Int} {K : m_M → Prop} (kk : ∀ μ1, ofC t μ μ1 → CS T L t q μ1 e o (CC ++ [x]) → K μ1) : c_v G (d + 1) YX10_addCode [vR t 0, vI x] μ K := by
  obtain ⟨⟨hB, ht, ⟨h1, h2, h3⟩, h12, hC⟩, he, h7, hT⟩ := h
  refine EX10_addCode (cls9 ht) ?_
  rw [h12, Int.toNat_natCast]
  refine ⟨fun z => by omega, fun _ => ⟨⟨by omega, by omega⟩, fun μ1 e1 μ2 e2 => ?_⟩⟩
  have n1 : μ1 t 0 12 = (CC.length : Int) := by rw [e1, m_up_ne _ _ (by omega)]; exact h12
  rw [n1, w32_s (by omega)] at e2
  have f : ∀ x y z, ¬ (x = t ∧ ((y = 12 ∧ z = CC.length) ∨ (y = 0 ∧ z = 12))) → μ2 x y z = μ x y z := fun x y z a => by rw [e2, m_up_ne _ _ (by omega), e1, m_up_ne _ _ (by omega)]
  refine kk μ2 (fun x y z _ _ a => f x y z (by omega)) ⟨⟨?_, ht, ?_, ?_, ?_⟩, he, ?_, ?_⟩
  · obtain ⟨⟨a, b⟩, c, d, e⟩ := hB
    exact ⟨⟨by rw [f 3 0 1 (by omega)]; exact a, by rw [f 3 0 2 (by omega)]; exact b⟩, fun i hi => by rw [f 1 1 i (by omega)]; exact c i hi, fun i hi => by rw [f 3 1 i (by omega)]; exact d i hi, e⟩
  · rw [f 2 0 1 (by omega), f 2 0 2 (by omega), f 2 0 3 (by omega)]; exact ⟨h1, h2, h3⟩
  · rw [e2, m_up_at]; simp
  · rw [List.length_append, List.length_singleton, codeL_app, codeL_congr (g := μ t 12) _ _ (fun i _ hi => f t 12 i (by omega)), hC, Nat.zero_add]
    congr 2
    rw [e2, m_up_ne _ _ (by omega), e1, m_up_at]
  · rw [f 3 0 7 (by omega)]; exact h7
  · unfold TK at hT ⊢
    rw [f 3 0 5 (by omega), f 3 0 4 (by omega), f 3 0 3 (by omega), f 3 0 6 (by omega), f 3 0 8 (by omega)]; exact hT
theorem CS.opn {μ : m_M} (h : CS T L t q μ e o CC) (o' : Nat) : CS T L t q (m_up μ 2 0 3 (o' : Int)) e o' CC ∧ ofC t μ (m_up μ 2 0 3 (o' : Int)) := by
  obtain ⟨⟨hB, ht, ⟨h1, h2, h3⟩, h12, hC⟩, he, h7, hT⟩ := h
  have f : ∀ x y z, ¬ (x = 2 ∧ y = 0 ∧ z = 3) → m_up μ 2 0 3 (o' : Int) x y z = μ x y z := fun x y z a => m_up_ne _ _ a
  refine ⟨⟨⟨?_, ht, ?_, ?_, ?_⟩, he, ?_, ?_⟩, fun x y z _ a _ => f x y z a⟩
  · obtain ⟨⟨a, b⟩, c, d, e⟩ := hB
    exact ⟨⟨by rw [f 3 0 1 (by omega)]; exact a, by rw [f 3 0 2 (by omega)]; exact b⟩, fun i hi => by rw [f 1 1 i (by omega)]; exact c i hi, fun i hi => by rw [f 3 1 i (by omega)]; exact d i hi, e⟩
  · rw [f 2 0 1 (by omega), f 2 0 2 (by omega), m_up_at]; exact ⟨h1, h2, rfl⟩
  · rw [f t 0 12 (by omega)]; exact h12
  · rw [codeL_congr (g := μ t 12) _ _ (fun i _ _ => f t 12 i (by omega))]; exact hC
  · rw [f 3 0 7 (by omega)]; exact h7
  · unfold TK at hT ⊢
    rw [f 3 0 5 (by omega), f 3 0 4 (by omega), f 3 0 3 (by omega), f 3 0 6 (by omega), f 3 0 8 (by omega)]; exact hT
/-- the sign is there: one more open, unless seven are -/
theorem s_open {d : Nat} {μ : m_M} (h : CS T L t q μ e o CC) (ho : o ≤ 7) {a : Int} (ha : a ≠ 284) (ht : tTk T L e = a) {K : Int → m_M → Prop} (k7 : o = 7 → ∀ μ1, ofC t μ μ1 → CF t 5 (tAt T L e) μ1 → K 0 μ1) (kf : o < 7 → tLf T L (tEn T L e) ≠ -1 → ∀ μ1, ofC t μ μ1 → CF t 1 (tLf T L (tEn T L e)) μ1 → K 1 μ1) (kk : o < 7 → ∀ μ1, ofC t μ μ1 → CS T L t q μ1 (tEn T L e) (o + 1) CC → K 1 μ1) : c_i G (d + 4) YX6_openOne [vR 2 0, vI a] μ K := by
  have h3 := h.1.2.2.1.2.2
  refine EX6_openOne ?_
  rw [h.2.2.2.2.2.1, h.2.2.2.2.1, h3]
  refine ⟨fun _ => ⟨fun h7 μ1 e1 => ?_, fun h7 => s_fail h (by decide) (fun μ1 f1 g1 => k7 (by omega) μ1 f1 g1)⟩, fun z => absurd ht z⟩
  rw [w32_s (by omega)] at e1
  have hh := h.opn (o + 1)
  rw [← e1] at hh
  exact s_next hh.1 (by omega) (fun hf μ2 f2 g2 => kf (by omega) hf μ2 (hh.2.tr f2) g2) (fun μ2 f2 g2 => kk (by omega) μ2 (hh.2.tr f2) g2)
theorem s_openX {d : Nat} {μ : m_M} (h : CS T L t q μ e o CC) {a : Int} (ht : tTk T L e ≠ a) {K : Int → m_M → Prop} (kk : ∀ μ1, ofC t μ μ1 → CF t 1 (tAt T L e) μ1 → K 0 μ1) : c_i G (d + 4) YX6_openOne [vR 2 0, vI a] μ K := by
  refine EX6_openOne ?_
  rw [h.2.2.2.2.2.1, h.2.2.2.2.1]
  exact ⟨fun z => absurd z ht, fun _ => s_fail h (by decide) kk⟩
theorem f_open {d : Nat} {μ : m_M} (h : CF t k p μ) {a : Int} (ha : a ≠ 285) {K : Int → m_M → Prop} (kk : K 0 μ) : c_i G (d + 4) YX6_openOne [vR 2 0, vI a] μ K := by
  refine EX6_openOne ⟨fun z => ?_, fun _ => c_fail2 (by rw [h.2.2.1]; exact h.2.2.2.1) h.2.2.2.2.2 kk⟩
  rw [h.2.2.2.2.2] at z
  exact absurd z.symm ha
theorem s_expect {d : Nat} {μ : m_M} (h : CS T L t q μ e o CC) {a : Int} (ha : a ≠ 284) {K : m_M → Prop} (kx : tTk T L e ≠ a → ∀ μ1, ofC t μ μ1 → CF t 1 (tAt T L e) μ1 → K μ1) (kf : tTk T L e = a → tLf T L (tEn T L e) ≠ -1 → ∀ μ1, ofC t μ μ1 → CF t 1 (tLf T L (tEn T L e)) μ1 → K μ1) (kk : tTk T L e = a → ∀ μ1, ofC t μ μ1 → CS T L t q μ1 (tEn T L e) o CC → K μ1) : c_v G (d + 4) YX6_expect [vR 2 0, vI a] μ K := by
  refine EX6_expect ?_
  rw [h.2.2.2.2.2.1, h.2.2.2.2.1]
  exact ⟨fun z => s_fail h (by decide) (kx z), fun z => s_next h (by omega) (kf z) (kk z)⟩
theorem s_close {d : Nat} {μ : m_M} (h : CS T L t q μ e (o + 1) CC) (ho : o ≤ 100) {a : Int} (ha : a ≠ 284) {K : m_M → Prop} (kx : tTk T L e ≠ a → ∀ μ1, ofC t μ μ1 → CF t 1 (tAt T L e) μ1 → K μ1) (kf : tTk T L e = a → tLf T L (tEn T L e) ≠ -1 → ∀ μ1, ofC t μ μ1 → CF t 1 (tLf T L (tEn T L e)) μ1 → K μ1) (kk : tTk T L e = a → ∀ μ1, ofC t μ μ1 → CS T L t q μ1 (tEn T L e) o CC → K μ1) : c_v G (d + 5) YX6_closeOne [vR 2 0, vI a] μ K := by
  refine EX6_closeOne (fun μ1 e1 => ?_)
  rw [h.1.2.2.1.2.2, show w32 (((o + 1 : Nat) : Int) - 1) = (o : Int) by rw [w32_le (by omega) (by omega)]; omega] at e1
  have hh := h.opn o
  rw [← e1] at hh
  obtain ⟨hh, f0⟩ := hh
  rw [hh.2.2.2.2.2.1, hh.2.2.2.2.1]
  exact ⟨fun z => s_fail hh (by decide) (fun μ2 f2 g2 => kx z μ2 (f0.tr f2) g2), fun z => s_next hh (by omega) (fun y μ2 f2 g2 => kf z y μ2 (f0.tr f2) g2) (fun μ2 f2 g2 => kk z μ2 (f0.tr f2) g2)⟩
end CF
